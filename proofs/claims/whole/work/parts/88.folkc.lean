/-! WHOSE FEET: the class -/
def b01 (b : Bool) : Nat := if b = true then 1 else 0
theorem b01_t {b : Bool} (h : b = true) : b01 b = 1 := if_pos h
theorem b01_f {b : Bool} (h : ¬ b = true) : b01 b = 0 := if_neg h
theorem e_F_topOf (σ : xS) (τ : xL) {S : Nat} (hS : S < 2 ^ 31) : Rn m_F_topOf [.int (nI S)] σ τ (some (.int (nI (tp S)))) σ τ := by
  intro Q h
  refine ev_go 100 [4] ?_
  refine ev_iter (M := m_F_topOf) (pc := 4) (st := []) (g := x_g) (Q := Q) 7 (fun i => ([.int (nI S), .int (nI (tpf S i)), .int (nI i)], σ, τ)) (fun i hi kk => ?_) ?_
  · dsimp only at kk ⊢
    simp only [tpf] at kk
    refine ev_go 100 [4] ?_
    refine br_f (nI_ge (b := 7) hi (by decide)) ?_
    refine e_S_has σ τ hS (by omega) _ ?_
    by_cases hb : S.testBit i = true
    · refine br_f (xb1 hb) ?_
      rw [if_pos hb] at kk
      show Ev m_F_topOf 4 [.int (nI S), .int (nI i), .int (nI i + 1)] [] x_g σ τ Q
      rw [nI_1]
      exact kk
    · refine br_t (xb0 hb) ?_
      rw [if_neg hb] at kk
      show Ev m_F_topOf 4 [.int (nI S), .int (nI (tpf S i)), .int (nI i + 1)] [] x_g σ τ Q
      rw [nI_1]
      exact kk
  · dsimp only
    refine ev_go 100 [] ?_
    refine br_t (nI_le (a := 7) (Nat.le_refl _) (by decide)) ?_
    exact h
theorem abs_ok : ∀ a b : Fin 10, ((1 : Int32) < (if 0 ≤ nI a.val - nI b.val then nI a.val - nI b.val else 0 - (nI a.val - nI b.val))) ↔ ¬ (a.val ≤ b.val + 1 ∧ b.val ≤ a.val + 1) := by decide +kernel
theorem abs_k {a b : Nat} (ha : a ≤ 9) (hb : b ≤ 9) : ((1 : Int32) < (if 0 ≤ nI a - nI b then nI a - nI b else 0 - (nI a - nI b))) ↔ ¬ (a ≤ b + 1 ∧ b ≤ a + 1) := abs_ok ⟨a, by omega⟩ ⟨b, by omega⟩
set_option maxHeartbeats 2000000 in
theorem e_F_take (σ : xS) (τ : xL) {P : xP} (hP : PC σ 17 P) (hV : PV P) : Rs m_F_take [.ref 44, .ref 17] σ τ none (fun σ' => Ag [44, 45, 47] σ σ' ∧ σ' 44 0 = nI (2 ^ pn P - 1) ∧ ∀ S, S < 2 ^ pn P → σ' 45 S = nI (b01 (one P S))) := by
  intro Q h
  have h7 := hV.1
  have h128 := p2_7 h7
  have hp := Nat.one_le_two_pow (n := pn P)
  have e0 : (1 : Int32) <<< (σ 17 0 &&& 31) - 1 = nI (2 ^ pn P - 1) := by
    rw [hP.1, q_shl1 (by omega)]
    exact pk_sub (a := 2 ^ pn P) (b := 1) hp
  refine ev_go 100 [14] ?_
  refine ev_lj (α := Value × Value) (M := m_F_take) (pc := 14) (st := []) (g := x_g) (Q := Q) (τ := τ) (pn P) (fun i u => [.ref 44, .ref 17, .int (nI i), u.1, u.2]) (fun i σ' => Ag [44, 45, 47] σ σ' ∧ σ' 44 0 = nI (2 ^ pn P - 1) ∧ ∀ x, x < i → σ' 47 x = nI (bs (al P x) (pn P))) (fun i hi u σ1 hI kk => ?_) (fun u σ1 hI => ?_) (.null, .null) _ ⟨Ag.refl.row (by decide), e0, fun x hx => absurd hx (Nat.not_lt_zero x)⟩
  · obtain ⟨hA1, ha1, hx1⟩ := hI
    have hP1 := hP.ag hA1 (by decide)
    refine ev_go 100 [38] ?_
    refine br_f (by rw [hP1.1]; exact nI_ge hi (by omega)) ?_
    refine ⟨7, rfl, q_in (by omega) (by decide), ?_⟩
    rw [cl7 (by omega)]
    refine e_P_tracksCrossed _ τ (hP1.ag (Ag.refl.row (L := [47]) (by decide)) (by decide)) hV (by omega) _ ?_
    refine ev_lp (M := m_F_take) (pc := 38) (st := []) (g := x_g) (Q := Q) (τ := τ) (pn P) (fun j => [.ref 44, .ref 17, .int (nI i), .int (nI (bs (crd P i) (pn P))), .int (nI j)]) (fun j σ' => Ag [44, 45, 47] σ σ' ∧ σ' 44 0 = nI (2 ^ pn P - 1) ∧ (∀ x, x < i → σ' 47 x = nI (bs (al P x) (pn P))) ∧ σ' 47 i = nI (bs (fun x => decide (x < j) && al P i x) (pn P))) (fun j hj σ2 hI kk2 => ?_) (fun σ2 hI => ?_) _ ⟨hA1.row (by decide), ha1, fun x hx => ?_, ?_⟩
    · obtain ⟨hA2, ha2, hx2, hv⟩ := hI
      have hP2 := hP.ag hA2 (by decide)
      have z1 := (hV.2.2.2.1 i hi).2.1
      have z2 := (hV.2.2.2.1 j hj).2.1
      have no : al P i j = false → Ev m_F_take 38 [.ref 44, .ref 17, .int (nI i), .int (nI (bs (crd P i) (pn P))), .int (nI j + 1)] [] x_g σ2 τ Q := by
        intro hc
        rw [nI_1]
        refine kk2 σ2 ⟨hA2, ha2, hx2, ?_⟩
        rw [hv]
        congr 1
        refine bs_ext (fun x hx => ?_)
        by_cases e : x = j
        · rw [e, hc]
          simp
        · rw [show decide (x < j + 1) = decide (x < j) from by rw [decide_eq_decide]; omega]
      refine ev_go 100 [38] ?_
      refine br_f (by rw [hP2.1]; exact nI_ge hj (by omega)) ?_
      refine e_S_has σ2 τ (b31 h7) (by omega) _ ?_
      rw [show (bs (crd P i) (pn P)).testBit j = crd P i j from by rw [bs_bit]; simp [hj]]
      by_cases t1 : crd P i j = true
      · refine bn_t (xb1 t1) ?_
        exact no (by simp [al, t1])
      · refine bn_f (xb0 t1) ?_
        refine ⟨7, rfl, q_in (by omega) (by decide), ?_⟩
        refine ⟨7, rfl, q_in (by omega) (by decide), ?_⟩
        have v1 : σ2 19 (nI i).toNatClampNeg = nI (pz P i) := by rw [cl7 (by omega)]; exact (hP2.2.2.2.1 i hi).2.1
        have v2 : σ2 19 (nI j).toNatClampNeg = nI (pz P j) := by rw [cl7 (by omega)]; exact (hP2.2.2.2.1 j hj).2.1
        rw [v1, v2]
        by_cases t2 : pz P i ≤ pz P j + 1 ∧ pz P j ≤ pz P i + 1
        · refine br_f (fun z => (abs_k z1 z2).mp z t2) ?_
          refine ⟨7, rfl, q_in (by omega) (by decide), ?_⟩
          refine ⟨7, rfl, q_in (by omega) (by decide), ?_⟩
          rw [cl7 (by omega), hv, q_shl1 (by omega), q_or, bs_or hj]
          show Ev m_F_take 38 [.ref 44, .ref 17, .int (nI i), .int (nI (bs (crd P i) (pn P))), .int (nI j + 1)] [] x_g _ τ Q
          rw [nI_1]
          refine kk2 _ ⟨hA2.row (by decide), ha2, fun x hx => ?_, ?_⟩
          · rw [rowput, if_neg (by omega)]
            exact hx2 x hx
          · rw [rowput, if_pos rfl]
            congr 1
            refine bs_ext (fun x hx => ?_)
            by_cases e : x = j
            · rw [e, show al P i j = true from by simp [al, t1, t2.1, t2.2]]
              simp
            · rw [show decide (x < j + 1) = decide (x < j) from by rw [decide_eq_decide]; omega, show (x == j) = false from beq_eq_false_iff_ne.mpr e, Bool.or_false]
        · refine br_t ((abs_k z1 z2).mpr t2) ?_
          have hal : al P i j = false := by
            simp only [al]
            by_cases h5 : pz P i ≤ pz P j + 1
            · have h6 : ¬ pz P j ≤ pz P i + 1 := fun z => t2 ⟨h5, z⟩
              simp [h6]
            · simp [h5]
          exact no hal
    · obtain ⟨hA2, ha2, hx2, hv⟩ := hI
      have hP2 := hP.ag hA2 (by decide)
      refine ev_go 100 [14] ?_
      refine br_t (by rw [hP2.1]; exact nI_le (Nat.le_refl _) (by omega)) ?_
      show Ev m_F_take 14 [.ref 44, .ref 17, .int (nI i + 1), _, _] [] x_g σ2 τ Q
      rw [nI_1]
      refine kk (_, _) σ2 ⟨hA2, ha2, fun x hx => ?_⟩
      by_cases e : x = i
      · rw [e, hv]
        congr 1
        exact bs_ext (fun x hx => by simp [hx])
      · exact hx2 x (by omega)
    · rw [rowput, if_neg (by omega)]
      exact hx1 x hx
    · rw [rowput, if_pos rfl, show bs (fun x => decide (x < 0) && al P i x) (pn P) = 0 from bs_eq0.mpr (fun x hx => by simp)]
      rfl
  · obtain ⟨hA1, ha1, hx1⟩ := hI
    have hP1 := hP.ag hA1 (by decide)
    refine ev_go 100 [111] ?_
    refine br_t (by rw [hP1.1]; exact nI_le (Nat.le_refl _) (by omega)) ?_
    refine ⟨128, rfl, q_in (i := 0) (by decide) (by decide), ?_⟩
    refine ev_lj (α := Value × Value) (M := m_F_take) (pc := 111) (st := []) (g := x_g) (Q := Q) (τ := τ) (2 ^ pn P - 1) (fun s u => [.ref 44, .ref 17, .int (nI (s + 1)), u.1, u.2]) (fun s σ' => Ag [44, 45, 47] σ σ' ∧ σ' 44 0 = nI (2 ^ pn P - 1) ∧ (∀ x, x < pn P → σ' 47 x = nI (bs (al P x) (pn P))) ∧ ∀ T, T ≤ s → σ' 45 T = nI (b01 (one P T))) (fun s hs u σ2 hI kk => ?_) (fun u σ2 hI => ?_) (_, _) _ ⟨hA1.row (by decide), ha1, hx1, fun T hT => ?_⟩
    · obtain ⟨hA2, ha2, hx2, ho2⟩ := hI
      obtain ⟨t1, t2, t3⟩ := tp_ok (S := s + 1) (by omega) (by omega)
      have htn := bit_lt (n := pn P) (S := s + 1) (by omega) t1
      have hT := nd_lt t1
      have hst := one_step hV (S := s + 1) (by omega) t1
      have eo : nI (s + 1) &&& (((1 : Int32) <<< (nI (tp (s + 1)) &&& 31)) ^^^ (-1)) = nI (nd (s + 1) (2 ^ tp (s + 1))) := by rw [q_shl1 (by omega), q_nd]
      have hnd : nd (nd (s + 1) (2 ^ tp (s + 1))) (bs (al P (tp (s + 1))) (pn P)) < 2 ^ 31 := Nat.lt_of_le_of_lt nd_le (by omega)
      have fin : ∀ v : Int32, v = nI (b01 (one P (s + 1))) → Ev m_F_take 111 [.ref 44, .ref 17, .int (nI (s + 1) + 1), .int (nI (tp (s + 1))), .int (nI (nd (s + 1) (2 ^ tp (s + 1))))] [] x_g (x_row σ2 45 (upd (σ2 45) (nI (s + 1)).toNatClampNeg v)) τ Q := by
        intro v hv
        rw [nI_1, cl7 (by omega)]
        refine kk (_, _) _ ⟨hA2.row (by decide), ha2, hx2, fun T hT => ?_⟩
        rw [rowput]
        by_cases e : T = s + 1
        · rw [if_pos e, e, hv]
        · rw [if_neg e]
          exact ho2 T (by omega)
      refine ev_go 100 [111] ?_
      refine br_f (by rw [ha2]; exact nI_nlt (by omega) (by omega)) ?_
      refine e_F_topOf σ2 τ (by omega) _ ?_
      refine ⟨7, rfl, q_in (by omega) (by decide), ?_⟩
      rw [cl7 (by omega), hx2 _ htn, eo]
      by_cases t4 : nd (nd (s + 1) (2 ^ tp (s + 1))) (bs (al P (tp (s + 1))) (pn P)) = 0
      · refine bn_f (by rw [q_nd, t4]; rfl) ?_
        refine ⟨128, rfl, q_in (by omega) (by decide), ?_⟩
        refine ⟨128, rfl, q_in (by omega) (by decide), ?_⟩
        refine fin _ ?_
        rw [cl7 (by omega), ho2 _ (by omega), hst]
        simp [t4]
      · refine bn_t (by rw [q_nd]; exact nI_ne0 (Nat.pos_of_ne_zero t4) hnd) ?_
        refine ⟨128, rfl, q_in (by omega) (by decide), ?_⟩
        refine fin _ ?_
        rw [hst, decide_eq_false t4, Bool.false_and]
        rfl
    · obtain ⟨hA2, ha2, hx2, ho2⟩ := hI
      refine ev_go 100 [] ?_
      refine br_t (by rw [ha2]; exact nI_lt (by omega) (by omega)) ?_
      exact h _ ⟨hA2, ha2, fun S hS => ho2 S (by omega)⟩
    · have : T = 0 := by omega
      subst this
      rw [one_0]
      rfl
def mx (ok : Nat → Bool) : Nat → Nat
  | 0 => 0
  | s + 1 => if ok s = true then max (mx ok s) (pp s) else mx ok s
def okm (P : xP) (S : Nat) : Bool := S.testBit 0 && one P S
theorem mx_le {ok : Nat → Bool} {n : Nat} (hn : n ≤ 32) : ∀ s, s ≤ 2 ^ n → mx ok s ≤ n
  | 0, _ => Nat.zero_le n
  | s + 1, h => by
    have h1 := mx_le (ok := ok) hn s (by omega)
    have h2 := pp_le (s := s) (n := n) (by omega) hn
    simp only [mx]
    split <;> omega
theorem nI_max {a b : Nat} (ha : a < 2 ^ 31) (hb : b < 2 ^ 31) : (if nI a < nI b then nI b else nI a) = nI (max a b) := by
  by_cases h : a < b
  · rw [if_pos (nI_lt h hb), Nat.max_eq_right (by omega)]
  · rw [if_neg (nI_nlt (by omega) ha), Nat.max_eq_left (by omega)]
theorem e_F_mostWith (σ : xS) (τ : xL) {P : xP} (h7 : pn P ≤ 7) (ha : σ 44 0 = nI (2 ^ pn P - 1)) (ho : ∀ S, S < 2 ^ pn P → σ 45 S = nI (b01 (one P S))) : Rn m_F_mostWith [.ref 44, .int 0] σ τ (some (.int (nI (mx (okm P) (2 ^ pn P))))) σ τ := by
  intro Q h
  have h128 := p2_7 h7
  have hp := Nat.one_le_two_pow (n := pn P)
  refine ev_go 100 [4] ?_
  refine ev_iter (M := m_F_mostWith) (pc := 4) (st := []) (g := x_g) (Q := Q) (2 ^ pn P) (fun s => ([.ref 44, .int 0, .int (nI (mx (okm P) s)), .int (nI s)], σ, τ)) (fun s hs kk => ?_) ?_
  · dsimp only at kk ⊢
    have hm := mx_le (ok := okm P) (n := pn P) (by omega) s (by omega)
    have hps := pp_le (s := s) (n := pn P) hs (by omega)
    have no : ¬ okm P s = true → Ev m_F_mostWith 4 [.ref 44, .int 0, .int (nI (mx (okm P) s)), .int (nI s + 1)] [] x_g σ τ Q := by
      intro hc
      simp only [mx] at kk
      rw [if_neg hc] at kk
      rw [nI_1]
      exact kk
    refine ev_go 100 [4] ?_
    refine br_f (by rw [ha]; exact nI_nlt (by omega) (by omega)) ?_
    refine e_S_has σ τ (s := s) (i := 0) (by omega) (by omega) _ ?_
    by_cases t1 : s.testBit 0 = true
    · refine br_f (xb1 t1) ?_
      refine ⟨128, rfl, q_in (by omega) (by decide), ?_⟩
      rw [cl7 (by omega), ho s hs]
      by_cases t2 : one P s = true
      · refine bn_f (by rw [b01_t t2]; rfl) ?_
        refine e_J_bitCount σ τ (by omega) _ ?_
        show Ev m_F_mostWith 4 [.ref 44, .int 0, .int (if nI (mx (okm P) s) < nI (pp s) then nI (pp s) else nI (mx (okm P) s)), .int (nI s + 1)] [] x_g σ τ Q
        rw [nI_max (by omega) (by omega)]
        simp only [mx] at kk
        rw [if_pos (by simp [okm, t1, t2])] at kk
        rw [nI_1]
        exact kk
      · refine bn_t (by rw [b01_f t2]; decide) ?_
        exact no (by simp [okm, t2])
    · refine br_t (xb0 t1) ?_
      exact no (by simp only [okm]; simp only [Bool.not_eq_true] at t1; rw [t1]; simp)
  · dsimp only
    refine ev_go 100 [] ?_
    refine br_t (by rw [ha]; exact nI_lt (by omega) (by omega)) ?_
    exact h
theorem hz_none {ok : Nat → Bool} {c : Nat → Nat} {b : Nat} : ∀ {s : Nat}, (∀ p, p < s → ok p = false) → hz ok c b s = b
  | 0, _ => rfl
  | s + 1, h => by
    simp only [hz]
    rw [if_neg (by rw [h s (Nat.lt_succ_self s)]; decide)]
    exact hz_none (fun p hp => h p (by omega))
set_option maxHeartbeats 2000000 in
theorem e_F_fewest (σ : xS) (τ : xL) {P : xP} (h7 : pn P ≤ 7) (ha : σ 44 0 = nI (2 ^ pn P - 1)) (ho : ∀ S, S < 2 ^ pn P → σ 45 S = nI (b01 (one P S))) : Rs m_F_fewest [.ref 44] σ τ (some (.int (nI (fwC P (2 ^ pn P - 1))))) (fun σ' => Ag [46] σ σ') := by
  intro Q h
  have h128 := p2_7 h7
  have hp := Nat.one_le_two_pow (n := pn P)
  refine ev_go 100 [9] ?_
  refine ⟨128, rfl, q_in (i := 0) (by decide) (by decide), ?_⟩
  refine ev_lj (α := Value × Value) (M := m_F_fewest) (pc := 9) (st := []) (g := x_g) (Q := Q) (τ := τ) (2 ^ pn P - 1) (fun s u => [.ref 44, .int (nI (s + 1)), u.1, u.2]) (fun s σ' => Ag [46] σ σ' ∧ ∀ T, T ≤ s → σ' 46 T = nI (fwC P T)) (fun s hs u σ1 hI kk => ?_) (fun u σ1 hI => ?_) (.null, .null) _ ⟨Ag.refl.row (by decide), fun T hT => ?_⟩
  · obtain ⟨hA1, hL1⟩ := hI
    obtain ⟨t1, t2, t3⟩ := tp_ok (S := s + 1) (by omega) (by omega)
    have htl := pow_le_of t1
    have ha1 : σ1 44 0 = nI (2 ^ pn P - 1) := by rw [hA1 44 (by decide)]; exact ha
    refine ev_go 100 [34] ?_
    refine br_f (by rw [ha1]; exact nI_nlt (by omega) (by omega)) ?_
    refine e_F_topOf σ1 τ (by omega) _ ?_
    refine ⟨128, rfl, q_in (by omega) (by decide), ?_⟩
    rw [cl7 (by omega), q_shl1 (by omega)]
    refine ev_lp (M := m_F_fewest) (pc := 34) (st := []) (g := x_g) (Q := Q) (τ := τ) (s + 2 - 2 ^ tp (s + 1)) (fun i => [.ref 44, .int (nI (s + 1)), .int (nI (2 ^ tp (s + 1))), .int (nI (2 ^ tp (s + 1) + i))]) (fun i σ' => Ag [46] σ σ' ∧ (∀ T, T ≤ s → σ' 46 T = nI (fwC P T)) ∧ σ' 46 (s + 1) = nI (hz (okC P (s + 1)) (fun p => fwC P (nd (s + 1) p) + 1) 7 (2 ^ tp (s + 1) + i))) (fun i hi σ2 hI kk2 => ?_) (fun σ2 hI => ?_) _ ⟨hA1.row (by decide), fun T hT => ?_, ?_⟩
    · obtain ⟨hA2, hL2, hv⟩ := hI
      generalize hpe : 2 ^ tp (s + 1) + i = p at *
      have hpi : 2 ^ tp (s + 1) + (i + 1) = p + 1 := by omega
      rw [hpi] at kk2
      have no : ¬ okC P (s + 1) p = true → Ev m_F_fewest 34 [.ref 44, .int (nI (s + 1)), .int (nI (2 ^ tp (s + 1))), .int (nI p + 1)] [] x_g σ2 τ Q := by
        intro hc
        rw [nI_1]
        refine kk2 σ2 ⟨hA2, hL2, ?_⟩
        simp only [hz]
        rw [if_neg hc]
        exact hv
      have hnd : nd p (s + 1) < 2 ^ 31 := Nat.lt_of_le_of_lt nd_le (by omega)
      refine ev_go 100 [34] ?_
      refine br_f (nI_nlt (by omega) (by omega)) ?_
      by_cases t4 : nd p (s + 1) = 0
      · refine bn_f (by rw [q_nd, t4]; rfl) ?_
        refine ⟨128, rfl, q_in (by omega) (by decide), ?_⟩
        rw [cl7 (by omega), hA2 45 (by decide), ho p (by omega)]
        by_cases t5 : one P p = true
        · refine bn_f (by rw [b01_t t5]; rfl) ?_
          have hok : okC P (s + 1) p = true := by
            simp only [okC, Bool.and_eq_true, decide_eq_true_eq]
            exact ⟨by omega, t4, t5⟩
          have hlt := (okC_lt hok).1
          refine ⟨128, rfl, q_in (by omega) (by decide), ?_⟩
          refine ⟨128, rfl, by rw [q_nd]; exact q_in (by omega) (by decide), ?_⟩
          refine ⟨128, rfl, q_in (by omega) (by decide), ?_⟩
          rw [q_nd, cl7 (by omega), cl7 (by omega), hv, hL2 _ (by omega), nI_1]
          have hz1 := hz_le (ok := okC P (s + 1)) (c := fun p => fwC P (nd (s + 1) p) + 1) (b := 7) p
          have hd1 : fwC P (nd (s + 1) p) ≤ 7 := by
            by_cases e : nd (s + 1) p = 0
            · rw [e, fwC_0]
              omega
            · rw [fwC_s e]
              exact hz_le _
          rw [nI_min (by omega) (by omega)]
          show Ev m_F_fewest 34 [.ref 44, .int (nI (s + 1)), .int (nI (2 ^ tp (s + 1))), .int (nI p + 1)] [] x_g _ τ Q
          rw [nI_1]
          refine kk2 _ ⟨hA2.row (by decide), fun T hT => ?_, ?_⟩
          · rw [rowput, if_neg (by omega)]
            exact hL2 T hT
          · rw [rowput, if_pos rfl]
            simp only [hz]
            rw [if_pos hok]
        · refine bn_t (by rw [b01_f t5]; decide) ?_
          exact no (by simp [okC, t5])
      · refine bn_t (by rw [q_nd]; exact nI_ne0 (Nat.pos_of_ne_zero t4) hnd) ?_
        exact no (by simp [okC, t4])
    · obtain ⟨hA2, hL2, hv⟩ := hI
      rw [show 2 ^ tp (s + 1) + (s + 2 - 2 ^ tp (s + 1)) = s + 2 by omega] at hv ⊢
      refine ev_go 100 [9] ?_
      refine br_t (nI_lt (by omega) (by omega)) ?_
      show Ev m_F_fewest 9 [.ref 44, .int (nI (s + 1) + 1), _, _] [] x_g σ2 τ Q
      rw [nI_1]
      refine kk (_, _) σ2 ⟨hA2, fun T hT => ?_⟩
      by_cases e1 : T = s + 1
      · rw [e1, hv, fwC_s (by omega)]
      · exact hL2 T (by omega)
    · rw [rowput, if_neg (by omega)]
      exact hL1 T hT
    · rw [rowput, if_pos rfl, Nat.add_zero, hz_none (fun p hp => ?_)]
      · rfl
      · simp only [okC]
        rw [show decide (2 ^ tp (s + 1) ≤ p) = false from decide_eq_false (by omega)]
        rfl
  · obtain ⟨hA1, hL1⟩ := hI
    have ha1 : σ1 44 0 = nI (2 ^ pn P - 1) := by rw [hA1 44 (by decide)]; exact ha
    refine ev_go 100 [] ?_
    refine br_t (by rw [ha1]; exact nI_lt (by omega) (by omega)) ?_
    refine ⟨128, rfl, by rw [ha1]; exact q_in (by omega) (by decide), ?_⟩
    rw [ha1, cl7 (by omega), hL1 _ (Nat.le_refl _)]
    exact h σ1 hA1
  · have : T = 0 := by omega
    subst this
    rw [fwC_0]
    rfl
