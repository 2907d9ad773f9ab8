/-! WHOSE FEET: the model -/
def alM (P : xP) (i j : Nat) : Bool := decide (pz P i ≤ pz P j + 1) && !crd P i j
def bdM (P : xP) (S i j : Nat) : Bool := (S.testBit i && S.testBit j) && !alM P i j
def aoM (P : xP) (S i : Nat) : Bool := !anb (fun x => anb (bdM P S x) (pn P)) i
theorem aoM_one {P : xP} {S : Nat} : aoM P S (pn P) = one P S := by
  rw [Bool.eq_iff_iff, one_iff]
  unfold aoM
  rw [Bool.not_eq_true', anb_no]
  have hb : ∀ {i j : Nat}, bdM P S i j = false ↔ (S.testBit i = true → S.testBit j = true → alM P i j = true) := by
    intro i j
    unfold bdM
    cases S.testBit i <;> cases S.testBit j <;> simp
  constructor
  · intro h i j hi hj h1 h2
    have a1 := hb.mp (anb_no.mp (h i hi) j hj) h1 h2
    have a2 := hb.mp (anb_no.mp (h j hj) i hi) h2 h1
    simp only [alM, Bool.and_eq_true, decide_eq_true_eq] at a1 a2
    simp only [al, Bool.and_eq_true, decide_eq_true_eq]
    exact ⟨a1.2, a1.1, a2.1⟩
  · intro h i hi
    refine anb_no.mpr (fun j hj => hb.mpr (fun h1 h2 => ?_))
    have a1 := h i j hi hj h1 h2
    simp only [al, Bool.and_eq_true, decide_eq_true_eq] at a1
    simp only [alM, Bool.and_eq_true, decide_eq_true_eq]
    exact ⟨a1.2.1, a1.1⟩
theorem dif_ok : ∀ a b : Fin 10, ((1 : Int32) < nI a.val - nI b.val) ↔ ¬ a.val ≤ b.val + 1 := by decide +kernel
theorem dif_k {a b : Nat} (ha : a ≤ 9) (hb : b ≤ 9) : ((1 : Int32) < nI a - nI b) ↔ ¬ a ≤ b + 1 := dif_ok ⟨a, by omega⟩ ⟨b, by omega⟩
theorem e_M_besideA (σ : xS) (τ : xL) {P : xP} (hP : PM σ P) (hV : PV P) {i : Nat} (hi : i < 7) : Rn m_M_beside [.ref 67, .int (nI i), .int 1, .int 1] σ τ (some (.int (nI (bs (crd P i) (pn P))))) σ τ := by
  have := e_M_beside σ τ hP hV hi (v := 1) (b := true) (Or.inl ⟨rfl, rfl⟩)
  rw [show bs (fun j => op (po P) (pu P) i (pc P) j || (true && op (pu P) (po P) i (pc P) j)) (pn P) = bs (crd P i) (pn P) from bs_ext (fun j _ => by simp [crd])] at this
  exact this
set_option maxHeartbeats 2000000 in
theorem e_M_areOnes (σ : xS) (τ : xL) {P : xP} (hP : PM σ P) (hV : PV P) {S : Nat} (hS : S < 2 ^ 31) : Rn m_M_areOnes [.ref 67, .int (nI S)] σ τ (some (.int (x_b (one P S = true)))) σ τ := by
  intro Q h
  have h7 := hV.1
  refine ev_go 100 [4] ?_
  have lp := ev_lj (α := Value × Value) (M := m_M_areOnes) (pc := 4) (st := []) (g := x_g) (τ := τ) (Q := Q) (pn P) (fun i u => [.ref 67, .int (nI S), .int (x_b (aoM P S i = true)), .int (nI i), u.1, u.2]) (fun _ σ' => σ' = σ) (fun i hi u σ1 hI kk => ?_) (fun u σ1 hI => ?_) (.null, .null) σ rfl
  · have e0 : x_b (aoM P S 0 = true) = 1 := x_b_t rfl
    dsimp only at lp
    rw [e0] at lp
    exact lp
  · subst hI
    refine ev_go 100 [15] ?_
    refine br_f (by rw [hP.1]; exact nI_ge hi (by omega)) ?_
    have lp := ev_lj (α := Value) (M := m_M_areOnes) (pc := 15) (st := []) (g := x_g) (τ := τ) (Q := Q) (pn P) (fun j u => [.ref 67, .int (nI S), .int (x_b ((aoM P S i && !anb (bdM P S i) j) = true)), .int (nI i), .int (nI j), u]) (fun _ σ' => σ' = σ1) (fun j hj u σ2 hI kk2 => ?_) (fun u σ2 hI => ?_) u.2 σ1 rfl
    · skip
      rw [show (aoM P S i && !anb (bdM P S i) 0) = aoM P S i from by simp [anb]] at lp
      exact lp
    · subst hI
      have z1 := (hV.2.2.2.1 i hi).2.1
      have z2 := (hV.2.2.2.1 j hj).2.1
      have es : (aoM P S i && !anb (bdM P S i) (j + 1)) = ((aoM P S i && !anb (bdM P S i) j) && !bdM P S i j) := by
        simp only [anb]
        cases aoM P S i <;> cases anb (bdM P S i) j <;> cases bdM P S i j <;> rfl
      generalize ho : (aoM P S i && !anb (bdM P S i) j) = old at *
      have yes : old = true → bdM P S i j = false → ∀ u : Value, Ev m_M_areOnes 15 [.ref 67, .int (nI S), .int 1, .int (nI i), .int (nI j + 1), u] [] x_g σ2 τ Q := by
        intro h1 h2 u
        have := kk2 u σ2 rfl
        skip
        rw [es, h1, h2, x_b_t (by rfl)] at this
        rw [nI_1]
        exact this
      have no : (old && !bdM P S i j) = false → ∀ u : Value, Ev m_M_areOnes 15 [.ref 67, .int (nI S), .int 0, .int (nI i), .int (nI j + 1), u] [] x_g σ2 τ Q := by
        intro h1 u
        have := kk2 u σ2 rfl
        skip
        rw [es, h1, x_b_f (by decide)] at this
        rw [nI_1]
        exact this
      refine ev_go 100 [15] ?_
      refine br_f (by rw [hP.1]; exact nI_ge hj (by omega)) ?_
      refine e_M_has σ2 τ hS (by omega) _ ?_
      by_cases t1 : S.testBit i = true
      · refine br_f (xb1 t1) ?_
        refine e_M_has σ2 τ hS (by omega) _ ?_
        by_cases t2 : S.testBit j = true
        · refine br_f (xb1 t2) ?_
          by_cases t3 : old = true
          · refine br_f (xb1 t3) ?_
            refine br_f (by decide) ?_
            refine ⟨7, rfl, q_in (by omega) (by decide), ?_⟩
            refine ⟨7, rfl, q_in (by omega) (by decide), ?_⟩
            have v1 : σ2 75 (nI i).toNatClampNeg = nI (pz P i) := by rw [cl7 (by omega)]; exact (hP.2.2.2.1 i hi).2.1
            have v2 : σ2 75 (nI j).toNatClampNeg = nI (pz P j) := by rw [cl7 (by omega)]; exact (hP.2.2.2.1 j hj).2.1
            rw [v1, v2]
            by_cases t4 : pz P i ≤ pz P j + 1
            · refine br_f (fun z => (dif_k z1 z2).mp z t4) ?_
              refine e_M_besideA σ2 τ hP hV (by omega) _ ?_
              refine e_M_has σ2 τ (b31 h7) (by omega) _ ?_
              rw [show (bs (crd P i) (pn P)).testBit j = crd P i j from by rw [bs_bit]; simp [hj]]
              by_cases t5 : crd P i j = true
              · refine bn_t (xb1 t5) ?_
                exact no (by simp [bdM, alM, t1, t2, t5]) _
              · refine bn_f (xb0 t5) ?_
                exact yes t3 (by simp [bdM, alM, t4, t5]) _
            · refine br_t ((dif_k z1 z2).mpr t4) ?_
              exact no (by simp [bdM, alM, t1, t2, t4]) _
          · refine br_t (xb0 t3) ?_
            exact no (by simp [t3]) _
        · refine br_t (xb0 t2) ?_
          by_cases t3 : old = true
          · refine br_f (xb1 t3) ?_
            refine br_t rfl ?_
            exact yes t3 (by simp [bdM, t2]) _
          · refine br_t (xb0 t3) ?_
            exact no (by simp [t3]) _
      · refine br_t (xb0 t1) ?_
        by_cases t3 : old = true
        · refine br_f (xb1 t3) ?_
          refine br_t rfl ?_
          exact yes t3 (by simp [bdM, t1]) _
        · refine br_t (xb0 t3) ?_
          exact no (by simp [t3]) _
    · subst hI
      refine ev_go 100 [4] ?_
      refine br_t (by rw [hP.1]; exact nI_le (Nat.le_refl _) (by omega)) ?_
      show Ev m_M_areOnes 4 [.ref 67, .int (nI S), .int (x_b ((aoM P S i && !anb (bdM P S i) (pn P)) = true)), .int (nI i + 1), _, _] [] x_g σ2 τ Q
      have := kk (.int (nI (pn P)), u) σ2 rfl
      dsimp only at this
      rw [show aoM P S (i + 1) = (aoM P S i && !anb (bdM P S i) (pn P)) from by simp only [aoM, anb, Bool.not_or]] at this
      rw [nI_1]
      exact this
  · subst hI
    refine ev_go 100 [] ?_
    refine br_t (by rw [hP.1]; exact nI_le (Nat.le_refl _) (by omega)) ?_
    rw [aoM_one]
    exact ⟨x_b_01, h⟩
theorem sm_next : ∀ (q p S : Nat), (∀ k, q.testBit k = true → S.testBit k = true) → (∀ k, p.testBit k = true → S.testBit k = true) → p < q → p ≤ (q - 1) &&& S := by
  intro q
  induction q using Nat.strongRecOn with
  | ind q ih =>
    intro p S hq hp hlt
    by_cases ho : q % 2 = 1
    · have e : (q - 1) &&& S = q - 1 := Nat.eq_of_testBit_eq (fun k => by
        rw [Nat.testBit_and]
        cases k with
        | zero =>
          have : (q - 1).testBit 0 = false := by rw [Nat.testBit_zero]; simp; omega
          rw [this]
          rfl
        | succ k =>
          have : (q - 1).testBit (k + 1) = q.testBit (k + 1) := by
            rw [Nat.testBit_add_one, Nat.testBit_add_one, show (q - 1) / 2 = q / 2 by omega]
          rw [this]
          cases hb : q.testBit (k + 1)
          · rfl
          · rw [hq _ hb]
            rfl)
      rw [e]
      omega
    · have hq2 : ∀ k, (q / 2).testBit k = true → (S / 2).testBit k = true := fun k hk => by
        rw [← Nat.testBit_add_one] at hk ⊢
        exact hq _ hk
      have hp2 : ∀ k, (p / 2).testBit k = true → (S / 2).testBit k = true := fun k hk => by
        rw [← Nat.testBit_add_one] at hk ⊢
        exact hp _ hk
      have h1 := ih (q / 2) (by omega) (p / 2) (S / 2) hq2 hp2 (by omega)
      have e1 : ((q - 1) &&& S) / 2 = (q / 2 - 1) &&& (S / 2) := by
        apply Nat.eq_of_testBit_eq
        intro k
        rw [← Nat.testBit_add_one, Nat.testBit_and, Nat.testBit_and, Nat.testBit_add_one, Nat.testBit_add_one, show (q - 1) / 2 = q / 2 - 1 by omega]
      have e2 : p % 2 = 1 → ((q - 1) &&& S) % 2 = 1 := fun hp1 => by
        have hb : p.testBit 0 = true := by rw [Nat.testBit_zero]; simp [hp1]
        have hS0 := hp 0 hb
        have hq0 : (q - 1).testBit 0 = true := by rw [Nat.testBit_zero]; simp; omega
        have : ((q - 1) &&& S).testBit 0 = true := by rw [Nat.testBit_and, hq0, hS0]; rfl
        rw [Nat.testBit_zero] at this
        simpa using this
      omega
/-- what holds of the least so far, when the parts above q are through -/
def pin (P : xP) (S q L : Nat) : Prop := L ≤ 8 ∧ (∀ p, q < p → p ≤ S → okM P S p = true → L ≤ fwM P (nd S p) + 1) ∧ (L = 8 ∨ ∃ p, q < p ∧ p ≤ S ∧ okM P S p = true ∧ L = fwM P (nd S p) + 1)
theorem pin_0 {P : xP} {S L : Nat} (h0 : ¬ S = 0) (h : pin P S 0 L) : L = fwM P S := by
  obtain ⟨h1, h2, h3⟩ := h
  rw [fwM_s h0]
  apply Nat.le_antisymm
  · rcases hz_get (ok := okM P S) (c := fun p => fwM P (nd S p) + 1) (b := 8) (S + 1) with hz | ⟨p, hp, ho, hz⟩
    · omega
    · rw [hz]
      have hp0 : 0 < p := by
        simp only [okM, Bool.and_eq_true, decide_eq_true_eq] at ho
        exact ho.1
      exact h2 p hp0 (by omega) ho
  · rcases h3 with h3 | ⟨p, p1, p2, p3, p4⟩
    · rw [h3]
      exact hz_le _
    · rw [p4]
      exact hz_at (c := fun p => fwM P (nd S p) + 1) (by omega) p3
theorem pin_s {P : xP} {S q L : Nat} (hq0 : 0 < q) (hqS : nd q S = 0) (h : pin P S q L) : pin P S ((q - 1) &&& S) (if one P q = true then min L (fwM P (nd S q) + 1) else L) := by
  obtain ⟨h1, h2, h3⟩ := h
  have hle : (q - 1) &&& S ≤ q - 1 := Nat.and_le_left
  have hqle : q ≤ S := sub_le (fun i hi => nd_0.mp hqS i hi)
  have below : ∀ p, (q - 1) &&& S < p → okM P S p = true → q ≤ p := fun p hp ho => by
    apply Classical.byContradiction
    intro z
    simp only [okM, Bool.and_eq_true, decide_eq_true_eq] at ho
    have := sm_next q p S (fun k hk => nd_0.mp hqS k hk) (fun k hk => nd_0.mp ho.2.1 k hk) (by omega)
    omega
  by_cases ho : one P q = true
  · have hok : okM P S q = true := by
      simp only [okM, Bool.and_eq_true, decide_eq_true_eq]
      exact ⟨hq0, hqS, ho⟩
    rw [if_pos ho]
    refine ⟨by omega, fun p p1 p2 p3 => ?_, ?_⟩
    · have := below p p1 p3
      by_cases e : p = q
      · rw [e]
        exact Nat.min_le_right _ _
      · have := h2 p (by omega) p2 p3
        omega
    · by_cases hm : L ≤ fwM P (nd S q) + 1
      · rw [Nat.min_eq_left hm]
        rcases h3 with h3 | ⟨p, p1, p2, p3, p4⟩
        · exact Or.inl h3
        · exact Or.inr ⟨p, by omega, p2, p3, p4⟩
      · rw [Nat.min_eq_right (by omega)]
        exact Or.inr ⟨q, by omega, hqle, hok, rfl⟩
  · rw [if_neg ho]
    refine ⟨h1, fun p p1 p2 p3 => ?_, ?_⟩
    · have hb := below p p1 p3
      have : p ≠ q := fun e => by
        rw [e] at p3
        simp only [okM, Bool.and_eq_true, decide_eq_true_eq] at p3
        exact ho p3.2.2
      exact h2 p (by omega) p2 p3
    · rcases h3 with h3 | ⟨p, p1, p2, p3, p4⟩
      · exact Or.inl h3
      · exact Or.inr ⟨p, by omega, p2, p3, p4⟩
