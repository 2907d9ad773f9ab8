/-! WHERE TO LOOK NEXT -/
theorem wy_e1_le {e : Nat → Nat → Bool} {n i j : Nat} (hi : i < n) : ∀ (c S : Nat), S < 2 ^ n → lf n S ≤ c → wy (e1 e i j) n S ≤ wy e n S := by
  intro c
  induction c with
  | zero =>
    intro S hS hc
    by_cases hz : S = 2 ^ n - 1
    · rw [hz, wy_all, wy_all]
      exact Nat.le_refl 1
    · obtain ⟨x, hx, hb2⟩ := lack hS hz
      have := lf_or hx hb2
      omega
  | succ c ih =>
    intro S hS hc
    by_cases hz : S = 2 ^ n - 1
    · rw [hz, wy_all, wy_all]
      exact Nat.le_refl 1
    · rw [wy_eq (by omega), wy_eq (by omega)]
      apply sg_le
      intro k hk
      rw [cf_e1 hi]
      by_cases h : cf e n S k = true
      · rw [if_pos h]
        have := lf_or hk (cf_no h)
        have := ih _ (or_lt hS hk) (by omega)
        split
        · exact this
        · exact Nat.zero_le _
      · rw [if_neg (fun z => h (Bool.and_eq_true _ _ ▸ z).1)]
        exact Nat.zero_le _
abbrev xO := Option (Nat × Nat)
def lkst (st : xO) (ok : Bool) (c m : Nat) : xO := if ok = true then (match st with
  | none => some (c, m)
  | some (b, l) => if m < l then some (c, m) else some (b, l)) else st
def bI : xO → Int32
  | none => -9
  | some (b, _) => nI b
def fC : xO → Int32
  | none => 0
  | some (_, l) => nI l
def fM (W : Nat) : xO → Int32
  | none => nI (W + 1)
  | some (_, l) => nI l
def lk1 (ok : Nat → Nat → Bool) (m : Nat → Nat → Nat) (i : Nat) (st : xO) : Nat → xO
  | 0 => st
  | k + 1 => lkst (lk1 ok m i st k) (ok i (i + 1 + k)) (10 * i + (i + 1 + k)) (m i (i + 1 + k))
def lk2 (ok : Nat → Nat → Bool) (m : Nat → Nat → Nat) (n : Nat) : Nat → xO
  | 0 => none
  | i + 1 => lk1 ok m i (lk2 ok m n i) (n - (i + 1))
def Bd (W : Nat) (st : xO) : Prop := ∀ b l, st = some (b, l) → b < 100 ∧ l ≤ W
theorem Bd.st {W : Nat} {st : xO} (h : Bd W st) {ok : Bool} {c m : Nat} (hc : c < 100) (hm : ok = true → m ≤ W) : Bd W (lkst st ok c m) := by
  intro b l he
  unfold lkst at he
  by_cases ho : ok = true
  · rw [if_pos ho] at he
    rcases st with _ | ⟨b', l'⟩
    · cases he
      exact ⟨hc, hm ho⟩
    · simp only at he
      by_cases hl : m < l'
      · rw [if_pos hl] at he
        cases he
        exact ⟨hc, hm ho⟩
      · rw [if_neg hl] at he
        cases he
        exact h _ _ rfl
  · rw [if_neg ho] at he
    exact h b l he
theorem pair_look : Pair m_S_look m_M_look [] := by
  intro σ τ hR
  obtain ⟨P, hC, hM, hV, hK⟩ := hR.2.2.1
  have h7 := hV.1
  have hp := Nat.one_le_two_pow (n := pn P)
  refine ev_go 100 [34] ?_
  refine e_S_closesToRing σ τ hC hV _ (fun σ1 h1 => ?_)
  have hM1 := hM.ag h1.1 (by decide)
  by_cases hr : rg (edP P) (pn P) = true
  · refine br_f (xb1 hr) ?_
    refine e_S_refuse σ1 τ 4 in4 _ ?_
    refine ⟨rfl, ?_⟩
    have hM2 := hM1.ag (Ag.cref (f := 4)) (by decide)
    refine ev_go 100 [] ?_
    refine e_M_isRingNow _ τ hM2 hV _ (fun σ2 h3 => ?_)
    refine br_f (xb1 hr) ?_
    refine e_M_finds σ2 τ 4 in4 _ ?_
    exact ⟨rfl, rfl, ⟨_, rfl⟩, hR.fnd h1.1 (by decide) (f := 4) (by decide) h3.1 (by decide)⟩
  refine br_t (xb0 hr) ?_
  refine e_G_countOnward σ1 τ h7 h1.2.1 _ (fun σ2 h3 => ?_)
  have hG2 := h1.2.ag h3.1 (by decide) (by decide) (by decide)
  refine e_G_countCome σ2 τ h7 hG2.1 _ (fun σ3 h4 => ?_)
  have hG3 := hG2.ag h4.1 (by decide) (by decide) (by decide)
  have hW3 := h3.2.ag h4.1 (by decide)
  have hC3 := ((hC.ag h1.1 (by decide)).ag h3.1 (by decide)).ag h4.1 (by decide)
  have hM3 := (hM1.ag h3.1 (by decide)).ag h4.1 (by decide)
  have hA3 : Ag [31, 32, 33, 34, 35] σ σ3 := ((h1.1.mono (by decide)).trans (h3.1.mono (by decide))).trans (h4.1.mono (by decide))
  generalize hn : pn P = n at *
  generalize he : edP P = e at *
  generalize hWe : wy e n 0 = W
  have hWb : W ≤ 823543 := by rw [← hWe]; exact wy_b h7 (by omega)
  have hok : ∃ ok : Nat → Nat → Bool, ok = fun i j => !(wr e n i j || wr e n j i) := ⟨_, rfl⟩
  obtain ⟨ok, hok⟩ := hok
  have hm : ∃ m : Nat → Nat → Nat, m = fun i j => max (wy (e1 e i j) n 0) (W - wy (e1 e i j) n 0) := ⟨_, rfl⟩
  obtain ⟨m, hm⟩ := hm
  have hmW : ∀ i j, i < n → m i j ≤ W := by
    intro i j hi
    have := wy_e1_le (e := e) (j := j) hi _ 0 (by omega) (Nat.le_refl _)
    rw [hm]
    simp only
    omega
  have bd1 : ∀ i st, i < n → Bd W st → ∀ k, k ≤ n - (i + 1) → Bd W (lk1 ok m i st k) := by
    intro i st hi hb k
    induction k with
    | zero => exact fun _ => hb
    | succ k ih =>
      intro hk
      exact (ih (by omega)).st (by omega) (fun _ => hmW _ _ hi)
  have bd2 : ∀ i, i ≤ n → Bd W (lk2 ok m n i) := by
    intro i
    induction i with
    | zero => exact fun _ b l h => by cases h
    | succ i ih =>
      intro hi
      exact bd1 i _ (by omega) (ih (by omega)) _ (Nat.le_refl _)
  -- the model
  have model : ∀ (σ4 : xS) (Q : xQ), Ag [0] σ3 σ4 → (∀ σ5, Ag [85, 86, 87] σ4 σ5 → lk2 ok m n n = none → Q (some (.int (-9))) x_g σ5 τ) → (∀ σ5 b l, Ag [85, 86, 87] σ4 σ5 → lk2 ok m n n = some (b, l) → Q (some (.int (nI b))) x_g (m_told σ5 (nI l)) τ) → Ev m_M_look 0 (x_loc [.ref 67] m_M_look.2.2.1) [] x_g σ4 τ Q := by
    intro σ4 Q hA4 hq1 hq2
    have hM4 := hM3.ag hA4 (by decide)
    refine ev_go 100 [28] ?_
    refine e_M_isRingNow _ τ hM4 hV _ (fun σ5 h5 => ?_)
    rw [hn, he] at h5 ⊢
    refine br_t (xb0 hr) ?_
    have hM5 := hM4.ag h5.1 (by decide)
    refine e_M_countOrders σ5 τ h7 (hn ▸ hM5.1) h5.2.1 _ (fun σ6 h6 => ?_)
    rw [hWe]
    have hM6 := hM5.ag h6.1 (by decide)
    have hn6 : σ6 67 10 = nI n := hn ▸ hM6.1
    have hMc6 : Mc σ6 n e := ⟨h5.2.1.ag h6.1 (by decide), h5.2.2.ag h6.1 (by decide)⟩
    have e0 : nI W + 1 = fM W none := nI_1 W
    show Ev m_M_look 28 [.ref 67, .int (nI W), .int (-9), .int (nI W + 1), .int (nI 0), .null, .null, .null] [] x_g σ6 τ Q
    rw [e0]
    refine ev_lj (α := Value × Value × Value) (M := m_M_look) (pc := 28) (st := []) (g := x_g) (Q := Q) (τ := τ) n (fun i u => [.ref 67, .int (nI W), .int (bI (lk2 ok m n i)), .int (fM W (lk2 ok m n i)), .int (nI i), u.1, u.2.1, u.2.2]) (fun i σ' => Ag [85, 86, 87] σ4 σ' ∧ Mc σ' n e) (fun i hi u σ7 hI kk => ?_) (fun u σ7 hI => ?_) (_, _, _) σ6 ⟨(h5.1.mono (by decide)).trans (h6.1.mono (by decide)), hMc6⟩
    · have hM7 := hM4.ag hI.1 (by decide)
      refine ev_go 100 [43] ?_
      refine br_f (by rw [hM7.1, hn]; exact nI_ge hi (by omega)) ?_
      show Ev m_M_look 43 [.ref 67, .int (nI W), .int (bI (lk2 ok m n i)), .int (fM W (lk2 ok m n i)), .int (nI i), .int (nI i + 1), u.2.1, u.2.2] [] x_g σ7 τ Q
      rw [nI_1]
      refine ev_lj (α := Value × Value) (M := m_M_look) (pc := 43) (st := []) (g := x_g) (Q := Q) (τ := τ) (n - (i + 1)) (fun k u => [.ref 67, .int (nI W), .int (bI (lk1 ok m i (lk2 ok m n i) k)), .int (fM W (lk1 ok m i (lk2 ok m n i) k)), .int (nI i), .int (nI (i + 1 + k)), u.1, u.2]) (fun k σ' => Ag [85, 86, 87] σ4 σ' ∧ Mc σ' n e) (fun k hk u σ8 hJ kk2 => ?_) (fun u σ8 hJ => ?_) (_, _) σ7 hI
      · have hM8 := hM4.ag hJ.1 (by decide)
        have hj : i + 1 + k < n := by omega
        have hbd := bd1 i _ hi (bd2 i (by omega)) k (by omega)
        have e1' : (bs (fun x => wr e n x i) n).testBit (i + 1 + k) = wr e n (i + 1 + k) i := by rw [bs_bit]; simp [hj]
        have e2' : (bs (fun x => wr e n x (i + 1 + k)) n).testBit i = wr e n i (i + 1 + k) := by rw [bs_bit]; simp [hi]
        have no : ok i (i + 1 + k) = false → Ev m_M_look 43 [.ref 67, .int (nI W), .int (bI (lk1 ok m i (lk2 ok m n i) k)), .int (fM W (lk1 ok m i (lk2 ok m n i) k)), .int (nI i), .int (nI (i + 1 + k) + 1), u.1, u.2] [] x_g σ8 τ Q := by
          intro ho
          rw [nI_1]
          have := kk2 u σ8 hJ
          simp only [lk1, lkst, ho] at this
          exact this
        refine ev_go 100 [43, 110] ?_
        refine br_f (by rw [hM8.1, hn]; exact nI_ge hj (by omega)) ?_
        refine ⟨7, rfl, q_in (by omega) (by decide), ?_⟩
        rw [hJ.2.2.get hi (by omega)]
        refine e_M_has σ8 τ (b31 h7) (by omega) _ ?_
        rw [e1']
        by_cases t1 : wr e n (i + 1 + k) i = true
        · refine bn_t (xb1 t1) ?_
          exact no (by rw [hok]; simp [t1])
        refine bn_f (xb0 t1) ?_
        refine ⟨7, rfl, q_in (by omega) (by decide), ?_⟩
        rw [hJ.2.2.get hj (by omega)]
        refine e_M_has σ8 τ (b31 h7) (by omega) _ ?_
        rw [e2']
        by_cases t2 : wr e n i (i + 1 + k) = true
        · refine bn_t (xb1 t2) ?_
          exact no (by rw [hok]; simp [t2])
        refine bn_f (xb0 t2) ?_
        refine e_M_countWith σ8 τ h7 (hn ▸ hM8.1) hJ.2.1 hi hj _ (fun σ9 h9 => ?_)
        have ho : ok i (i + 1 + k) = true := by rw [hok]; simp [t1, t2]
        have hv := wy_e1_le (e := e) (j := i + 1 + k) hi _ 0 (by omega) (Nat.le_refl _)
        have hmv : m i (i + 1 + k) = max (wy (e1 e i (i + 1 + k)) n 0) (W - wy (e1 e i (i + 1 + k)) n 0) := by rw [hm]
        have hsub : nI W - nI (wy (e1 e i (i + 1 + k)) n 0) = nI (W - wy (e1 e i (i + 1 + k)) n 0) := pk_sub (by omega)
        generalize wy (e1 e i (i + 1 + k)) n 0 = v at hv hmv hsub ⊢
        have fin : ∀ u', Ev m_M_look 43 [.ref 67, .int (nI W), .int (bI (lk1 ok m i (lk2 ok m n i) (k + 1))), .int (fM W (lk1 ok m i (lk2 ok m n i) (k + 1))), .int (nI i), .int (nI (i + 1 + k) + 1), .int (nI v), u'] [] x_g σ9 τ Q := by
          intro u'
          rw [nI_1]
          exact kk2 (_, _) _ ⟨hJ.1.trans (h9.1.mono (by decide)), h9.2, hJ.2.2.ag h9.1 (by decide)⟩
        have join : Ev m_M_look 110 [.ref 67, .int (nI W), .int (bI (lk1 ok m i (lk2 ok m n i) k)), .int (fM W (lk1 ok m i (lk2 ok m n i) k)), .int (nI i), .int (nI (i + 1 + k)), .int (nI v), u.2] [.int (nI (m i (i + 1 + k)))] x_g σ9 τ Q := by
          have hmW' := hmW i (i + 1 + k) hi
          simp only [lk1, lkst, ho, if_true] at fin
          generalize lk1 ok m i (lk2 ok m n i) k = st at hbd fin ⊢
          rcases st with _ | ⟨b, l⟩
          · refine ev_go 100 [43] ?_
            refine br_f (fun z => by have := (nI_leI (by omega) (by omega)).mp z; omega) ?_
            refine br_f (fun z => by have := (nI_leI (by omega) (by omega)).mp z; omega) ?_
            have := fin (.int (nI (m i (i + 1 + k))))
            simp only [bI, fM] at this
            rw [show nI (10 * i + (i + 1 + k)) = 10 * nI i + nI (i + 1 + k) from by rw [show (10 : Int32) = nI 10 from rfl, pk_mul, nI_add]] at this
            exact this
          · have hb := hbd b l rfl
            by_cases hl : m i (i + 1 + k) < l
            · refine ev_go 100 [43] ?_
              refine br_f (fun z => by have := (nI_leI (by omega) (by omega)).mp z; omega) ?_
              refine br_f (fun z => by have := (nI_leI (by omega) (by omega)).mp z; omega) ?_
              have := fin (.int (nI (m i (i + 1 + k))))
              simp only [if_pos hl, bI, fM] at this
              rw [show nI (10 * i + (i + 1 + k)) = 10 * nI i + nI (i + 1 + k) from by rw [show (10 : Int32) = nI 10 from rfl, pk_mul, nI_add]] at this
              exact this
            · refine ev_go 100 [43] ?_
              refine br_t ((nI_leI (by omega) (by omega)).mpr (by omega)) ?_
              refine br_t ((nI_leI (by omega) (by omega)).mpr (by omega)) ?_
              have := fin (.int (nI (m i (i + 1 + k))))
              simp only [if_neg hl, bI, fM] at this
              exact this
        have hle : nI v ≤ nI W - nI v ↔ v ≤ W - v := by
          rw [hsub]
          exact nI_leI (by omega) (by omega)
        by_cases hlv : v ≤ W - v
        · refine br_t (hle.mpr hlv) ?_
          rw [show m i (i + 1 + k) = W - v by omega, ← hsub] at join
          exact join
        · refine br_f (fun z => hlv (hle.mp z)) ?_
          rw [show m i (i + 1 + k) = v by omega] at join
          exact join
      · have hM8 := hM4.ag hJ.1 (by decide)
        refine ev_go 100 [28] ?_
        refine br_t (by rw [hM8.1, hn]; exact nI_le (by omega) (by omega)) ?_
        show Ev m_M_look 28 [.ref 67, .int (nI W), .int (bI (lk2 ok m n (i + 1))), .int (fM W (lk2 ok m n (i + 1))), .int (nI i + 1), _, _, _] [] x_g _ τ Q
        rw [nI_1]
        exact kk (_, _, _) _ hJ
    · have hM7 := hM4.ag hI.1 (by decide)
      have hbd := bd2 n (Nat.le_refl n)
      refine ev_go 100 [28] ?_
      refine br_t (by rw [hM7.1, hn]; exact nI_le (Nat.le_refl _) (by omega)) ?_
      rcases hst : lk2 ok m n n with _ | ⟨b, l⟩
      · refine bn_f rfl ?_
        exact hq1 σ7 hI.1 hst
      · refine bn_t (nI_ne9 (by have := (hbd b l hst).1; omega)) ?_
        refine e_M_tells σ7 τ _ _ _ ?_
        exact hq2 σ7 b l hI.1 hst
  have cls : ∀ (Q : xQ), (lk2 ok m n n = none → Q (some (.int (-9))) x_g σ3 τ) → (∀ b l, lk2 ok m n n = some (b, l) → Q (some (.int (nI b))) x_g (c_told σ3 (nI l)) τ) → Ev m_S_look 34 [.ref 0, .int (-9), .int 0, .int 0, .null, .null, .null] [] x_g σ3 τ Q := by
    intro Q hq1 hq2
    refine ev_lj (α := Value × Value × Value) (M := m_S_look) (pc := 34) (st := []) (g := x_g) (Q := Q) (τ := τ) n (fun i u => [.ref 0, .int (bI (lk2 ok m n i)), .int (fC (lk2 ok m n i)), .int (nI i), u.1, u.2.1, u.2.2]) (fun i σ' => σ' = σ3) (fun i hi u σ7 hI kk => ?_) (fun u σ7 hI => ?_) (_, _, _) σ3 rfl
    · subst hI
      refine ev_go 100 [50] ?_
      refine br_f (by rw [hC3.1, hn]; exact nI_ge hi (by omega)) ?_
      show Ev m_S_look 50 [.ref 0, .int (bI (lk2 ok m n i)), .int (fC (lk2 ok m n i)), .int (nI i), .int (nI i + 1), u.2.1, u.2.2] [] x_g σ7 τ Q
      rw [nI_1]
      refine ev_lj (α := Value × Value) (M := m_S_look) (pc := 50) (st := []) (g := x_g) (Q := Q) (τ := τ) (n - (i + 1)) (fun k u => [.ref 0, .int (bI (lk1 ok m i (lk2 ok m n i) k)), .int (fC (lk1 ok m i (lk2 ok m n i) k)), .int (nI i), .int (nI (i + 1 + k)), u.1, u.2]) (fun k σ' => σ' = σ7) (fun k hk u σ8 hJ kk2 => ?_) (fun u σ8 hJ => ?_) (_, _) σ7 rfl
      · subst hJ
        have hj : i + 1 + k < n := by omega
        have hbd := bd1 i _ hi (bd2 i (by omega)) k (by omega)
        refine ev_go 100 [50] ?_
        refine br_f (by rw [hC3.1, hn]; exact nI_ge hj (by omega)) ?_
        refine ⟨7, rfl, q_in (by omega) (by decide), ?_⟩
        rw [hG3.2.get hi (by omega)]
        refine e_G_surelyAheadOf σ8 τ h7 hG3.1.1 hG3.2 hi _ ?_
        have eo : nI (bs (wr e n i) n) ||| nI (bs (fun x => wr e n x i) n) = nI (bs (fun x => wr e n i x || wr e n x i) n) := by rw [q_or, bs_orb]
        show Ev m_S_has 0 (x_loc [.int (nI (bs (wr e n i) n) ||| nI (bs (fun x => wr e n x i) n)), .int (nI (i + 1 + k))] m_S_has.2.2.1) [] x_g σ8 τ _
        rw [eo]
        refine e_S_has σ8 τ (b31 h7) (by omega) _ ?_
        rw [show (bs (fun x => wr e n i x || wr e n x i) n).testBit (i + 1 + k) = (wr e n i (i + 1 + k) || wr e n (i + 1 + k) i) by rw [bs_bit]; simp [hj]]
        by_cases t : (wr e n i (i + 1 + k) || wr e n (i + 1 + k) i) = true
        · refine br_f (xb1 t) ?_
          show Ev m_S_look 50 [.ref 0, .int (bI (lk1 ok m i (lk2 ok m n i) k)), .int (fC (lk1 ok m i (lk2 ok m n i) k)), .int (nI i), .int (nI (i + 1 + k) + 1), u.1, u.2] [] x_g σ8 τ Q
          rw [nI_1]
          have := kk2 u σ8 rfl
          have ho : ok i (i + 1 + k) = false := by rw [hok]; simp only [t]; rfl
          simp only [lk1, lkst, ho] at this
          exact this
        · refine br_t (xb0 t) ?_
          refine e_G_ordersWith σ8 τ h7 hG3.1 hW3 h4.2 hi hj (by omega) _ ?_
          refine ⟨128, rfl, q_in (i := 0) (by decide) (by decide), ?_⟩
          have ho : ok i (i + 1 + k) = true := by rw [hok]; simpa using t
          have hv := wy_e1_le (e := e) (j := i + 1 + k) hi _ 0 (by omega) (Nat.le_refl _)
          have hmv : m i (i + 1 + k) = max (wy (e1 e i (i + 1 + k)) n 0) (W - wy (e1 e i (i + 1 + k)) n 0) := by rw [hm]
          have hmW' := hmW i (i + 1 + k) hi
          rw [show σ8 34 (0 : Int32).toNatClampNeg = nI W from hWe ▸ hW3 0 (by omega)]
          have hsub : nI W - nI (wy (e1 e i (i + 1 + k)) n 0) = nI (W - wy (e1 e i (i + 1 + k)) n 0) := pk_sub (by omega)
          generalize wy (e1 e i (i + 1 + k)) n 0 = v at hv hmv hsub ⊢
          have emax : (if nI v < nI W - nI v then nI W - nI v else nI v) = nI (m i (i + 1 + k)) := by
            rw [hsub]
            by_cases hlv : v < W - v
            · rw [if_pos ((nI_ltI (by omega) (by omega)).mpr hlv)]
              congr 1
              omega
            · rw [if_neg (fun z => hlv ((nI_ltI (by omega) (by omega)).mp z))]
              congr 1
              omega
          have fin := kk2 (.int (nI v), .int (nI (m i (i + 1 + k)))) σ8 rfl
          have e10 : nI (10 * i + (i + 1 + k)) = 10 * nI i + nI (i + 1 + k) := by rw [show (10 : Int32) = nI 10 from rfl, pk_mul, nI_add]
          simp only [lk1, lkst, ho, if_true] at fin
          rw [show i + 1 + (k + 1) = i + 1 + k + 1 from rfl, ← nI_1] at fin
          generalize lk1 ok m i (lk2 ok m n i) k = st at hbd fin ⊢
          rcases st with _ | ⟨b, l⟩
          · refine br_t rfl ?_
            rw [emax]
            simp only [bI, fC] at fin
            rw [e10] at fin
            exact fin
          · have hb := hbd b l rfl
            refine br_f (nI_ne9 (by omega)) ?_
            rw [emax]
            by_cases hl : m i (i + 1 + k) < l
            · refine br_f (nI_ge hl (by omega)) ?_
              simp only [if_pos hl, bI, fC] at fin
              rw [e10] at fin
              exact fin
            · refine br_t (nI_le (by omega) (by omega)) ?_
              simp only [if_neg hl, bI, fC] at fin
              exact fin
      · subst hJ
        refine ev_go 100 [34] ?_
        refine br_t (by rw [hC3.1, hn]; exact nI_le (by omega) (by omega)) ?_
        show Ev m_S_look 34 [.ref 0, .int (bI (lk2 ok m n (i + 1))), .int (fC (lk2 ok m n (i + 1))), .int (nI i + 1), _, _, _] [] x_g _ τ Q
        rw [nI_1]
        exact kk (_, _, _) _ rfl
    · subst hI
      have hbd := bd2 n (Nat.le_refl n)
      refine ev_go 100 [34] ?_
      refine br_t (by rw [hC3.1, hn]; exact nI_le (Nat.le_refl _) (by omega)) ?_
      rcases hst : lk2 ok m n n with _ | ⟨b, l⟩
      · refine br_t rfl ?_
        exact hq1 hst
      · refine br_f (nI_ne9 (by have := (hbd b l hst).1; omega)) ?_
        exact hq2 b l hst
  refine cls _ (fun hst => ?_) (fun b l hst => ?_)
  · refine ⟨rfl, model σ3 _ Ag.refl (fun σ5 h5 _ => ?_) (fun σ5 b l _ h => ?_)⟩
    · exact ⟨rfl, rfl, ⟨_, rfl⟩, (hR.ag hA3 (by decide)).ag h5 (by decide)⟩
    · rw [hst] at h
      cases h
  · refine ⟨rfl, model (c_told σ3 (nI l)) _ Ag.ctold (fun σ5 _ h => ?_) (fun σ5 b' l' h5 h => ?_)⟩
    · rw [hst] at h
      cases h
    · rw [hst] at h
      cases h
      exact ⟨rfl, rfl, ⟨_, rfl⟩, hR.tld hA3 (by decide) h5 (by decide)⟩
