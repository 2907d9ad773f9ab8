/-! WHAT IS DROPPED: the class's pairs -/
def Dp (σ : xS) (m : Nat) (w v g : Nat → Nat) : Prop := σ 39 0 = nI m ∧ Ar σ 40 m w ∧ Ar σ 41 m v ∧ Ar σ 42 m g
theorem Dp.ag {σ σ' : xS} {m : Nat} {w v g : Nat → Nat} {L : List Nat} (h : Dp σ m w v g) (hA : Ag L σ σ') (h1 : 39 ∉ L) (h2 : 40 ∉ L) (h3 : 41 ∉ L) (h4 : 42 ∉ L) : Dp σ' m w v g := ⟨by rw [hA 39 h1]; exact h.1, h.2.1.ag hA h2, h.2.2.1.ag hA h3, h.2.2.2.ag hA h4⟩
theorem e_D_clear (σ : xS) (τ : xL) : Rs m_D_clear [.ref 39] σ τ none (fun σ' => Ag [39] σ σ' ∧ Dp σ' 0 (fun _ => 0) (fun _ => 0) (fun _ => 0)) := by
  intro Q h
  refine ev_go 100 [] ?_
  refine h _ ⟨Ag.refl.row (by decide), ?_, fun j hj => absurd hj (Nat.not_lt_zero j), fun j hj => absurd hj (Nat.not_lt_zero j), fun j hj => absurd hj (Nat.not_lt_zero j)⟩
  rfl
theorem Ar.app {σ σ' : xS} {q m a : Nat} {w : Nat → Nat} (h : Ar σ q m w) (h' : ∀ j, σ' q j = if j = m then nI a else σ q j) : Ar σ' q (m + 1) (nup w m a) := by
  intro j hj
  rw [h' j]
  by_cases e : j = m
  · rw [if_pos e, e, nup_eq]
  · rw [if_neg e, nup_ne e]
    exact h j (by omega)
theorem e_D_addPair (σ : xS) (τ : xL) {m : Nat} {w v g : Nat → Nat} (hD : Dp σ m w v g) (hm : m < 16) {a b c : Nat} {va vb vc : Int32} (ea : va = nI a) (eb : vb = nI b) (ec : vc = nI c) : Rs m_D_addPair [.ref 39, .int va, .int vb, .int vc] σ τ none (fun σ' => Ag [39, 40, 41, 42] σ σ' ∧ Dp σ' (m + 1) (nup w m a) (nup v m b) (nup g m c)) := by
  intro Q h
  subst ea eb ec
  obtain ⟨h0, h1, h2, h3⟩ := hD
  refine ev_go 100 [] ?_
  refine br_f (by rw [h0]; exact nI_ge (b := 16) hm (by decide)) ?_
  refine ⟨16, rfl, by rw [h0]; exact q_in hm (by decide), ?_⟩
  refine ⟨16, rfl, by show vp_in (σ 39 0) 16; rw [h0]; exact q_in hm (by decide), ?_⟩
  refine ⟨16, rfl, by show vp_in (σ 39 0) 16; rw [h0]; exact q_in hm (by decide), ?_⟩
  have e : (σ 39 0).toNatClampNeg = m := by rw [h0]; exact cl7 (by omega)
  have key : ∀ σ', σ' = x_row (x_row (x_row (x_row σ 40 (upd (σ 40) (σ 39 0).toNatClampNeg (nI a))) 41 (upd (σ 41) (σ 39 0).toNatClampNeg (nI b))) 42 (upd (σ 42) (σ 39 0).toNatClampNeg (nI c))) 39 (upd (σ 39) 0 (σ 39 0 + 1)) → Ag [39, 40, 41, 42] σ σ' ∧ Dp σ' (m + 1) (nup w m a) (nup v m b) (nup g m c) := by
    intro σ' es
    refine ⟨by rw [es]; exact (((Ag.refl.row (by decide)).row (by decide)).row (by decide)).row (by decide), ?_, h1.app (fun j => ?_), h2.app (fun j => ?_), h3.app (fun j => ?_)⟩
    · rw [es]
      show σ 39 0 + 1 = _
      rw [h0, nI_1]
    · rw [es, e]
      rfl
    · rw [es, e]
      rfl
    · rw [es, e]
      rfl
  exact h _ (key _ rfl)
/-- sums over the pairs -/
theorem sg_app {h : Nat → Nat → Nat → Nat} {w v g : Nat → Nat} {m a b c : Nat} : sg (fun p => h (nup w m a p) (nup v m b p) (nup g m c p)) (m + 1) = sg (fun p => h (w p) (v p) (g p)) m + h a b c := by
  simp only [sg]
  rw [nup_eq, nup_eq, nup_eq, sg_congr (fun p hp => by rw [nup_ne (by omega), nup_ne (by omega), nup_ne (by omega)])]
def ws (m : Nat) (w v g : Nat → Nat) (S i : Nat) : Nat := sg (fun p => if w p = i ∧ S.testBit (v p) = true then g p else 0) m
theorem e_D_weightAgainst (σ : xS) (τ : xL) {m : Nat} {w v g : Nat → Nat} (hD : Dp σ m w v g) (hm : m ≤ 16) (hb : ∀ p, p < m → w p < 7 ∧ v p < 7) {S i : Nat} (hS : S < 2 ^ 31) (hi : i < 7) : Rn m_D_weightAgainst [.ref 39, .int (nI S), .int (nI i)] σ τ (some (.int (nI (ws m w v g S i)))) σ τ := by
  intro Q h
  obtain ⟨h0, h1, h2, h3⟩ := hD
  refine ev_go 100 [5] ?_
  refine ev_iter (M := m_D_weightAgainst) (pc := 5) (st := []) (g := x_g) (Q := Q) m (fun p => ([.ref 39, .int (nI S), .int (nI i), .int (nI (ws p w v g S i)), .int (nI p)], σ, τ)) (fun p hp kk => ?_) ?_
  · dsimp only at kk ⊢
    obtain ⟨b1, b2⟩ := hb p hp
    have no : ¬ (w p = i ∧ S.testBit (v p) = true) → Ev m_D_weightAgainst 5 [.ref 39, .int (nI S), .int (nI i), .int (nI (ws p w v g S i)), .int (nI p + 1)] [] x_g σ τ Q := by
      intro hc
      simp only [ws, sg] at kk
      rw [if_neg hc, Nat.add_zero] at kk
      rw [nI_1]
      exact kk
    refine ev_go 100 [5] ?_
    refine br_f (by rw [h0]; exact nI_ge hp (by omega)) ?_
    refine ⟨16, rfl, q_in (by omega) (by decide), ?_⟩
    rw [h1.get hp (by omega)]
    by_cases t1 : w p = i
    · refine bn_f (by rw [t1]) ?_
      refine ⟨16, rfl, q_in (by omega) (by decide), ?_⟩
      rw [h2.get hp (by omega)]
      refine e_S_has σ τ hS (by omega) _ ?_
      by_cases t2 : S.testBit (v p) = true
      · refine br_f (xb1 t2) ?_
        refine ⟨16, rfl, q_in (by omega) (by decide), ?_⟩
        rw [h3.get hp (by omega)]
        show Ev m_D_weightAgainst 5 [.ref 39, .int (nI S), .int (nI i), .int (nI (ws p w v g S i) + nI (g p)), .int (nI p + 1)] [] x_g σ τ Q
        simp only [ws, sg] at kk
        rw [if_pos ⟨t1, t2⟩] at kk
        rw [nI_1, nI_add]
        exact kk
      · refine br_t (xb0 t2) ?_
        exact no (fun z => t2 z.2)
    · refine bn_t (fun z => t1 ((q_eq (by omega) (by omega)).mp z)) ?_
      exact no (fun z => t1 z.1)
  · dsimp only
    refine ev_go 100 [] ?_
    refine br_t (by rw [h0]; exact nI_le (Nat.le_refl _) (by omega)) ?_
    exact h
theorem nI_min {a b : Nat} (ha : a < 2 ^ 31) (hb : b < 2 ^ 31) : (if nI b < nI a then nI b else nI a) = nI (min a b) := by
  by_cases h : b < a
  · rw [if_pos (nI_lt h ha), Nat.min_eq_right (by omega)]
  · rw [if_neg (nI_nlt (by omega) hb), Nat.min_eq_left (by omega)]
set_option maxHeartbeats 2000000 in
theorem e_D_leastWeight (σ : xS) (τ : xL) {n : Nat} (h7 : n ≤ 7) {e : Nat → Nat → Bool} (hG : Gr σ n e) {m : Nat} {w v g : Nat → Nat} (hD : Dp σ m w v g) (hm : m ≤ 16) (hb : ∀ p, p < m → w p < 7 ∧ v p < 7) {a : Nat → Nat → Nat} (ha : ∀ S i, ws m w v g S i = a S i) (hab : ∀ S i, a S i ≤ 268435456) : Rs m_D_leastWeight [.ref 39, .ref 31] σ τ (some (.int (nI (ds e n a (2 ^ n - 1))))) (fun σ' => Ag [43] σ σ') := by
  intro Q h
  have h128 := p2_7 h7
  have hp := Nat.one_le_two_pow (n := n)
  refine ev_go 100 [9] ?_
  refine ⟨128, rfl, q_in (i := 0) (by decide) (by decide), ?_⟩
  refine ev_lj (α := Value × Value) (M := m_D_leastWeight) (pc := 9) (st := []) (g := x_g) (Q := Q) (τ := τ) (2 ^ n - 1) (fun s u => [.ref 39, .ref 31, .int (nI (s + 1)), u.1, u.2]) (fun s σ' => Ag [43] σ σ' ∧ ∀ T, T ≤ s → σ' 43 T = nI (ds e n a T)) (fun s hs u σ1 hI kk => ?_) (fun u σ1 hI => ?_) (.null, .null) _ ⟨Ag.refl.row (by decide), fun T hT => ?_⟩
  · obtain ⟨hA1, hL1⟩ := hI
    have hG1 := hG.ag hA1 (by decide) (by decide)
    refine ev_go 100 [27] ?_
    refine br_f (by rw [hG1.1.2]; exact nI_nlt (by omega) (by omega)) ?_
    refine ⟨128, rfl, q_in (by omega) (by decide), ?_⟩
    rw [cl7 (by omega)]
    refine ev_lj (α := Value) (M := m_D_leastWeight) (pc := 27) (st := []) (g := x_g) (Q := Q) (τ := τ) n (fun i u => [.ref 39, .ref 31, .int (nI (s + 1)), .int (nI i), u]) (fun i σ' => Ag [43] σ σ' ∧ (∀ T, T ≤ s → σ' 43 T = nI (ds e n a T)) ∧ σ' 43 (s + 1) = nI (hz (fun i => (s + 1).testBit i && cf e n (nd (s + 1) (2 ^ i)) i) (fun i => ds e n a (nd (s + 1) (2 ^ i)) + a (nd (s + 1) (2 ^ i)) i) 268435456 i)) (fun i hi u2 σ2 hI kk2 => ?_) (fun u2 σ2 hI => ?_) u.2 _ ⟨hA1.row (by decide), fun T hT => ?_, ?_⟩
    · obtain ⟨hA2, hL2, hv⟩ := hI
      have hG2 := hG.ag hA2 (by decide) (by decide)
      have hlt : nd (s + 1) (2 ^ i) < 2 ^ n := Nat.xor_lt_two_pow (by omega) (Nat.and_lt_two_pow _ (Nat.pow_lt_pow_right (by decide) hi))
      have no : ¬ ((s + 1).testBit i && cf e n (nd (s + 1) (2 ^ i)) i) = true → Ev m_D_leastWeight 27 [.ref 39, .ref 31, .int (nI (s + 1)), .int (nI i + 1), .int (nI (nd (s + 1) (2 ^ i)))] [] x_g σ2 τ Q := by
        intro hc
        rw [nI_1]
        refine kk2 _ σ2 ⟨hA2, hL2, ?_⟩
        simp only [hz]
        rw [if_neg hc]
        exact hv
      have eo : nI (s + 1) &&& (((1 : Int32) <<< (nI i &&& 31)) ^^^ (-1)) = nI (nd (s + 1) (2 ^ i)) := by rw [q_shl1 (by omega), q_nd]
      refine ev_go 100 [27] ?_
      refine br_f (by rw [hG2.1.1]; exact nI_ge hi (by omega)) ?_
      refine e_S_has σ2 τ (by omega) (by omega) _ ?_
      rw [eo]
      by_cases t1 : (s + 1).testBit i = true
      · refine br_f (xb1 t1) ?_
        refine e_G_canFollow σ2 τ h7 hG2.2 (S := nd (s + 1) (2 ^ i)) hlt hi _ ?_
        by_cases t2 : cf e n (nd (s + 1) (2 ^ i)) i = true
        · refine br_f (xb1 t2) ?_
          have hT := nd_lt t1
          refine ⟨128, rfl, q_in (by omega) (by decide), ?_⟩
          refine ⟨128, rfl, q_in (by omega) (by decide), ?_⟩
          refine e_D_weightAgainst σ2 τ (hD.ag hA2 (by decide) (by decide) (by decide) (by decide)) hm hb (S := nd (s + 1) (2 ^ i)) (by omega) (by omega) _ ?_
          refine ⟨128, rfl, q_in (by omega) (by decide), ?_⟩
          rw [cl7 (by omega), cl7 (by omega), hv, hL2 _ (by omega), ha, nI_add]
          have hz1 := hz_le (ok := fun i => (s + 1).testBit i && cf e n (nd (s + 1) (2 ^ i)) i) (c := fun i => ds e n a (nd (s + 1) (2 ^ i)) + a (nd (s + 1) (2 ^ i)) i) (b := 268435456) i
          have hd1 := ds_b (e := e) (n := n) (a := a) (nd (s + 1) (2 ^ i))
          have ha1 := hab (nd (s + 1) (2 ^ i)) i
          rw [nI_min (by omega) (by omega)]
          show Ev m_D_leastWeight 27 [.ref 39, .ref 31, .int (nI (s + 1)), .int (nI i + 1), .int (nI (nd (s + 1) (2 ^ i)))] [] x_g _ τ Q
          rw [nI_1]
          refine kk2 _ _ ⟨hA2.row (by decide), fun T hT => ?_, ?_⟩
          · rw [rowput, if_neg (by omega)]
            exact hL2 T hT
          · rw [rowput, if_pos rfl]
            simp only [hz]
            rw [if_pos (by simp [t1, t2])]
        · refine br_t (xb0 t2) ?_
          exact no (by simp [t2])
      · refine br_t (xb0 t1) ?_
        exact no (by simp [t1])
    · obtain ⟨hA2, hL2, hv⟩ := hI
      have hG2 := hG.ag hA2 (by decide) (by decide)
      refine ev_go 100 [9] ?_
      refine br_t (by rw [hG2.1.1]; exact nI_le (Nat.le_refl _) (by omega)) ?_
      show Ev m_D_leastWeight 9 [.ref 39, .ref 31, .int (nI (s + 1) + 1), .int (nI n), u2] [] x_g σ2 τ Q
      rw [nI_1]
      refine kk (_, _) σ2 ⟨hA2, fun T hT => ?_⟩
      by_cases e1 : T = s + 1
      · rw [e1, hv, ds_s (by omega)]
      · exact hL2 T (by omega)
    · rw [rowput, if_neg (by omega)]
      exact hL1 T hT
    · rw [rowput, if_pos rfl]
      rfl
  · obtain ⟨hA1, hL1⟩ := hI
    have hG1 := hG.ag hA1 (by decide) (by decide)
    refine ev_go 100 [] ?_
    refine br_t (by rw [hG1.1.2]; exact nI_lt (by omega) (by omega)) ?_
    refine ⟨128, rfl, by rw [hG1.1.2]; exact q_in (by omega) (by decide), ?_⟩
    rw [hG1.1.2, cl7 (by omega), hL1 _ (Nat.le_refl _)]
    exact h σ1 hA1
  · have : T = 0 := by omega
    subst this
    rw [ds_0]
    rfl
