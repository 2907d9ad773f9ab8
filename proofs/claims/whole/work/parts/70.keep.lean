/-! CROSSINGS ADDED, PASSES KEPT -/
def padd (P : xP) (a b : Nat) : xP := (pn P, pc P + 1, pw P, pk P, pz P, pf P, nup (po P) (pc P) a, nup (pu P) (pc P) b)
def c_add (σ : xS) (o c a b : Nat) : xS := x_row (x_row (x_row σ (o + 4) (upd (σ (o + 4)) c (nI a))) (o + 5) (upd (σ (o + 5)) c (nI b))) o (upd (σ o) 1 (nI (c + 1)))
def m_add (σ : xS) (c a b : Nat) : xS := x_row (x_row (x_row σ 77 (upd (σ 77) c (nI a))) 78 (upd (σ 78) c (nI b))) 67 (upd (σ 67) 14 (nI (c + 1)))
theorem PV.add {P : xP} (h : PV P) {a b : Nat} (hc : pc P < 16) (ha : a < pn P) (hb : b < pn P) (hab : a ≠ b) : PV (padd P a b) := by
  refine ⟨h.1, hc, h.2.2.1, h.2.2.2.1, fun k hk => ?_⟩
  have hk : k < pc P + 1 := hk
  show nup (po P) (pc P) a k < pn P ∧ nup (pu P) (pc P) b k < pn P ∧ nup (po P) (pc P) a k ≠ nup (pu P) (pc P) b k
  by_cases e : k = pc P
  · subst e
    rw [nup_eq, nup_eq]
    exact ⟨ha, hb, hab⟩
  · rw [nup_ne e, nup_ne e]
    exact h.2.2.2.2 k (by omega)
theorem PC.add {σ : xS} {o : Nat} {P : xP} (h : PC σ o P) (a b : Nat) : PC (c_add σ o (pc P) a b) o (padd P a b) := by
  have e0 : c_add σ o (pc P) a b o = upd (σ o) 1 (nI (pc P + 1)) := x_row_eq
  have e1 : ∀ q, q ≠ o → q ≠ o + 5 → q ≠ o + 4 → c_add σ o (pc P) a b q = σ q := fun q q1 q2 q3 => by
    unfold c_add
    rw [x_row_ne q1, x_row_ne q2, x_row_ne q3]
  have e4 : c_add σ o (pc P) a b (o + 4) = upd (σ (o + 4)) (pc P) (nI a) := by
    unfold c_add
    rw [x_row_ne (by omega), x_row_ne (by omega), x_row_eq]
  have e5 : c_add σ o (pc P) a b (o + 5) = upd (σ (o + 5)) (pc P) (nI b) := by
    unfold c_add
    rw [x_row_ne (by omega), x_row_eq]
  refine ⟨?_, ?_, ?_, fun i hi => ?_, fun k hk => ?_⟩
  · rw [e0]; exact h.1
  · rw [e0]; rfl
  · rw [e0]; exact h.2.2.1
  · rw [e1 (o + 1) (by omega) (by omega) (by omega), e1 (o + 2) (by omega) (by omega) (by omega), e1 (o + 3) (by omega) (by omega) (by omega)]
    exact h.2.2.2.1 i hi
  · have hk : k < pc P + 1 := hk
    rw [e4, e5]
    show upd (σ (o + 4)) (pc P) (nI a) k = nI (nup (po P) (pc P) a k) ∧ upd (σ (o + 5)) (pc P) (nI b) k = nI (nup (pu P) (pc P) b k)
    by_cases e : k = pc P
    · subst e
      simp [upd, nup]
    · simp only [upd, nup, e, if_false]
      exact h.2.2.2.2 k (by omega)
theorem PM.add {σ : xS} {P : xP} (h : PM σ P) (a b : Nat) : PM (m_add σ (pc P) a b) (padd P a b) := by
  have e0 : m_add σ (pc P) a b 67 = upd (σ 67) 14 (nI (pc P + 1)) := x_row_eq
  have e1 : ∀ q, q ≠ 67 → q ≠ 78 → q ≠ 77 → m_add σ (pc P) a b q = σ q := fun q q1 q2 q3 => by
    unfold m_add
    rw [x_row_ne q1, x_row_ne q2, x_row_ne q3]
  have e4 : m_add σ (pc P) a b 77 = upd (σ 77) (pc P) (nI a) := by
    unfold m_add
    rw [x_row_ne (by omega), x_row_ne (by omega), x_row_eq]
  have e5 : m_add σ (pc P) a b 78 = upd (σ 78) (pc P) (nI b) := by
    unfold m_add
    rw [x_row_ne (by omega), x_row_eq]
  refine ⟨?_, ?_, ?_, fun i hi => ?_, fun k hk => ?_⟩
  · rw [e0]; exact h.1
  · rw [e0]; rfl
  · rw [e0]; exact h.2.2.1
  · rw [e1 74 (by omega) (by omega) (by omega), e1 75 (by omega) (by omega) (by omega), e1 76 (by omega) (by omega) (by omega)]
    exact h.2.2.2.1 i hi
  · have hk : k < pc P + 1 := hk
    rw [e4, e5]
    show upd (σ 77) (pc P) (nI a) k = nI (nup (po P) (pc P) a k) ∧ upd (σ 78) (pc P) (nI b) k = nI (nup (pu P) (pc P) b k)
    by_cases e : k = pc P
    · subst e
      simp [upd, nup]
    · simp only [upd, nup, e, if_false]
      exact h.2.2.2.2 k (by omega)
theorem Ag.cadd {σ : xS} {o c a b : Nat} : Ag [o, o + 4, o + 5] σ (c_add σ o c a b) := ((Ag.refl.row (by simp)).row (by simp)).row (by simp)
theorem Ag.madd {σ : xS} {c a b : Nat} : Ag [67, 77, 78] σ (m_add σ c a b) := ((Ag.refl.row (by decide)).row (by decide)).row (by decide)
theorem RelK.of {σ : xS} {P R : xP} (h : RelK σ P) (h1 : pn R = pn P) (h2 : ∀ i, i < pn P → pk R i = pk P i ∧ pz R i = pz P i) : RelK σ R := by
  intro k hk
  rcases h k hk with h | ⟨P', a1, a2, a3, a4, a5, a6⟩
  · exact Or.inl h
  · refine Or.inr ⟨P', a1, a2, a3.trans h1.symm, by omega, fun i hi => ?_, ?_⟩
    · rw [h1] at hi
      rw [(h2 i hi).1, (h2 i hi).2]
      exact a5 i hi
    · rw [h1]
      exact a6
theorem e_P_addCrossing (σ : xS) (τ : xL) {o : Nat} (ho : o = 17 ∨ o = 24) {c a b : Nat} (hc : σ o 1 = nI c) (h16 : c < 16) : Rn m_P_addCrossing [.ref o, .int (nI a), .int (nI b)] σ τ none (c_add σ o c a b) τ := by
  intro Q h
  have e0 : upd (σ o) 1 (nI c + 1) = upd (σ o) 1 (nI (c + 1)) := by rw [nI_1]
  rcases ho with rfl | rfl
  · refine ev_go 100 [] ?_
    refine br_f (by rw [hc]; exact nI_ge (b := 16) h16 (by decide)) ?_
    refine ⟨16, rfl, by show vp_in (σ 17 1) 16; rw [hc]; exact q_in h16 (by decide), ?_⟩
    refine ⟨16, rfl, by show vp_in (σ 17 1) 16; rw [hc]; exact q_in h16 (by decide), ?_⟩
    show Q none x_g (x_row (x_row (x_row σ 21 (upd (σ 21) (σ 17 1).toNatClampNeg (nI a))) 22 (upd (σ 22) (σ 17 1).toNatClampNeg (nI b))) 17 (upd (σ 17) 1 (σ 17 1 + 1))) τ
    rw [hc, cl7 (by omega), nI_1]
    exact h
  · refine ev_go 100 [] ?_
    refine br_f (by rw [hc]; exact nI_ge (b := 16) h16 (by decide)) ?_
    refine ⟨16, rfl, by show vp_in (σ 24 1) 16; rw [hc]; exact q_in h16 (by decide), ?_⟩
    refine ⟨16, rfl, by show vp_in (σ 24 1) 16; rw [hc]; exact q_in h16 (by decide), ?_⟩
    show Q none x_g (x_row (x_row (x_row σ 28 (upd (σ 28) (σ 24 1).toNatClampNeg (nI a))) 29 (upd (σ 29) (σ 24 1).toNatClampNeg (nI b))) 24 (upd (σ 24) 1 (σ 24 1 + 1))) τ
    rw [hc, cl7 (by omega), nI_1]
    exact h
theorem pair_cross (i j : Int32) : Pair m_S_cross m_M_cross [.int i, .int j] := by
  intro σ τ hR
  obtain ⟨P, hC, hM, hV, hK⟩ := hR.2.2.1
  have h7 := hV.1
  have h16 := hV.2.1
  refine ev_go 100 [] ?_
  refine e_P_areTwo σ τ i j _ ?_
  rw [hC.1]
  by_cases h2 : (¬ i < 0 ∧ ¬ nI (pn P) ≤ i) ∧ (¬ j < 0 ∧ ¬ nI (pn P) ≤ j) ∧ ¬ i = j
  · refine bn_t (xb1 h2) ?_
    by_cases hf : pc P < 16
    · refine br_t (by rw [hC.2.1]; exact nI_lt (b := 16) hf (by decide)) ?_
      obtain ⟨a, b, ha, hb, hab, rfl, rfl⟩ := (q_two h7 i j).mp h2
      refine e_P_addCrossing σ τ (Or.inl rfl) hC.2.1 hf _ ?_
      refine ⟨rfl, ?_⟩
      have hM1 := hM.ag (Ag.cadd (o := 17) (c := pc P) (a := a) (b := b)) (by decide)
      refine ev_go 100 [] ?_
      refine e_M_arePair _ τ hM1 hV _ _ _ ?_
      refine bn_t (xb1 h2) ?_
      refine bn_t (fun z => absurd ((q_eq (b := 16) (by omega) (by decide)).mp (hM1.2.1.symm.trans z)) (by omega)) ?_
      refine ⟨16, rfl, by show vp_in (c_add σ 17 (pc P) a b 67 14) 16; rw [hM1.2.1]; exact q_in hf (by decide), ?_⟩
      refine ⟨16, rfl, by show vp_in (c_add σ 17 (pc P) a b 67 14) 16; rw [hM1.2.1]; exact q_in hf (by decide), ?_⟩
      refine ⟨rfl, ?_, ⟨_, rfl⟩, ?_⟩
      · show some (Value.int (nI (pc P + 1) - 1)) = some (Value.int (c_add σ 17 (pc P) a b 67 14 + 1 - 1))
        rw [hM1.2.1, nI_1]
      · show Rel (x_row (x_row (x_row (c_add σ 17 (pc P) a b) 77 (upd (c_add σ 17 (pc P) a b 77) (c_add σ 17 (pc P) a b 67 14).toNatClampNeg (nI a))) 78 (upd (c_add σ 17 (pc P) a b 78) (c_add σ 17 (pc P) a b 67 14).toNatClampNeg (nI b))) 67 (upd (c_add σ 17 (pc P) a b 67) 14 (c_add σ 17 (pc P) a b 67 14 + 1))) τ
        rw [hM1.2.1, cl7 (by omega), nI_1]
        show Rel (m_add (c_add σ 17 (pc P) a b) (pc P) a b) τ
        have hg : Ag [17, 21, 22, 67, 77, 78] σ (m_add (c_add σ 17 (pc P) a b) (pc P) a b) := ((Ag.cadd (σ := σ) (o := 17)).mono (by decide)).trans (Ag.madd.mono (by decide))
        have e : ∀ q, q ≠ 17 → q ≠ 21 → q ≠ 22 → q ≠ 67 → q ≠ 77 → q ≠ 78 → m_add (c_add σ 17 (pc P) a b) (pc P) a b q = σ q := fun q q1 q2 q3 q4 q5 q6 => hg q (by simp [q1, q2, q3, q4, q5, q6])
        refine hR.pass (P := padd P a b) ((hC.add a b).ag Ag.madd (by decide)) (hM1.add a b) (hV.add hf ha hb hab) ((hK.congr (fun q q1 q2 => e q (by omega) (by omega) (by omega) (by omega) (by omega) (by omega)) (e 84 (by omega) (by omega) (by omega) (by omega) (by omega) (by omega))).of rfl (fun _ _ => ⟨rfl, rfl⟩)) (fun q q1 => e q (by omega) (by omega) (by omega) (by omega) (by omega) (by omega)) (fun q q1 q2 => e q (by omega) (by omega) (by omega) (by omega) (by omega) (by omega)) (fun q q1 q2 => e q (by omega) (by omega) (by omega) (by omega) (by omega) (by omega)) (fun j hj => ?_)
        show upd (σ 67) 14 (nI (pc P + 1)) j = σ 67 j
        simp only [upd]
        rw [if_neg (by omega)]
    · refine br_f (by rw [hC.2.1]; exact nI_nlt (b := 16) (by omega) (by omega)) ?_
      refine ⟨rfl, ?_⟩
      refine ev_go 100 [] ?_
      refine e_M_arePair σ τ hM hV _ _ _ ?_
      refine bn_t (xb1 h2) ?_
      refine bn_f (by rw [hM.2.1, show pc P = 16 by omega]; rfl) ?_
      exact ⟨rfl, rfl, ⟨_, rfl⟩, hR⟩
  · refine bn_f (xb0 h2) ?_
    refine ⟨rfl, ?_⟩
    refine ev_go 100 [] ?_
    refine e_M_arePair σ τ hM hV _ _ _ ?_
    refine bn_f (xb0 h2) ?_
    exact ⟨rfl, rfl, ⟨_, rfl⟩, hR⟩
/-- one pass taken from another -/
def Tk (σ σ' : xS) (o p : Nat) : Prop := Ag [o, o + 1, o + 2, o + 3, o + 4, o + 5] σ σ' ∧ (σ' o 0 = σ p 0 ∧ σ' o 1 = σ p 1 ∧ σ' o 2 = σ p 2) ∧ (∀ j, j < 7 → σ' (o + 1) j = σ (p + 1) j) ∧ (∀ j, j < 7 → σ' (o + 2) j = σ (p + 2) j) ∧ (∀ j, j < 7 → σ' (o + 3) j = σ (p + 3) j) ∧ (∀ j, j < 16 → σ' (o + 4) j = σ (p + 4) j) ∧ ∀ j, j < 16 → σ' (o + 5) j = σ (p + 5) j
theorem cpy0 {f g : Nat → Int32} {n j : Nat} (h : j < n) : va_cpy f g 0 0 n j = f j := by
  rw [pk_cpy_in (by omega) (by omega)]
  congr 1
  omega
theorem Tk.pc {σ σ' : xS} {o p : Nat} {P : xP} (h : Tk σ σ' o p) (hP : PC σ p P) (hV : PV P) : PC σ' o P := by
  obtain ⟨-, ⟨a1, a2, a3⟩, b1, b2, b3, c1, c2⟩ := h
  have h7 := hV.1
  have h16 := hV.2.1
  refine ⟨a1.trans hP.1, a2.trans hP.2.1, a3.trans hP.2.2.1, fun i hi => ?_, fun k hk => ?_⟩
  · rw [b1 i (by omega), b2 i (by omega), b3 i (by omega)]
    exact hP.2.2.2.1 i hi
  · rw [c1 k (by omega), c2 k (by omega)]
    exact hP.2.2.2.2 k hk
set_option maxHeartbeats 2000000 in
theorem e_P_takeFrom (σ : xS) (τ : xL) {o p : Nat} (ho : (o = 17 ∧ p = 24) ∨ (o = 49 ∧ p = 17) ∨ (o = 55 ∧ p = 17) ∨ (o = 61 ∧ p = 17) ∨ (o = 17 ∧ p = 49) ∨ (o = 17 ∧ p = 55) ∨ (o = 17 ∧ p = 61)) : Rs m_P_takeFrom [.ref o, .ref p] σ τ none (fun σ' => Tk σ σ' o p) := by
  intro Q h
  rcases ho with ⟨rfl, rfl⟩ | ⟨rfl, rfl⟩ | ⟨rfl, rfl⟩ | ⟨rfl, rfl⟩ | ⟨rfl, rfl⟩ | ⟨rfl, rfl⟩ | ⟨rfl, rfl⟩
  all_goals
    refine ev_go 100 [] ?_
    refine ⟨7, 7, rfl, rfl, by decide, ?_⟩
    refine ⟨7, 7, rfl, rfl, by decide, ?_⟩
    refine ⟨7, 7, rfl, rfl, by decide, ?_⟩
    refine ⟨16, 16, rfl, rfl, by decide, ?_⟩
    refine ⟨16, 16, rfl, rfl, by decide, ?_⟩
    refine h _ ⟨?_, ⟨rfl, rfl, rfl⟩, fun j hj => ?_, fun j hj => ?_, fun j hj => ?_, fun j hj => ?_, fun j hj => ?_⟩
    · exact (((((((Ag.refl.row (by decide)).row (by decide)).row (by decide)).row (by decide)).row (by decide)).row (by decide)).row (by decide)).row (by decide)
    · exact cpy0 (n := 7) hj
    · exact cpy0 (n := 7) hj
    · exact cpy0 (n := 7) hj
    · exact cpy0 (n := 16) hj
    · exact cpy0 (n := 16) hj
/-- the model's kept pass -/
def kf (σ : xS) (k i j : Nat) : Nat → Int32 := fun x => if x = 42 * k then σ 67 14 else if x = 42 * k + 1 then σ 67 17 else if 42 * k + 2 ≤ x ∧ x < 42 * k + 2 + i then σ 76 (x - (42 * k + 2)) else if 42 * k + 9 ≤ x ∧ x < 42 * k + 9 + j then σ 77 (x - (42 * k + 9)) else if 42 * k + 25 ≤ x ∧ x < 42 * k + 25 + j then σ 78 (x - (42 * k + 25)) else σ 84 x
theorem kf_0 (σ : xS) (k : Nat) : upd (upd (σ 84) (42 * k) (σ 67 14)) (42 * k + 1) (σ 67 17) = kf σ k 0 0 := by
  funext x
  simp only [upd, kf]
  by_cases e : x = 42 * k + 1
  · rw [if_pos e, if_neg (by omega), if_pos e]
  · rw [if_neg e]
    by_cases e2 : x = 42 * k
    · rw [if_pos e2, if_pos e2]
    · rw [if_neg e2, if_neg e2, if_neg e, if_neg (by omega), if_neg (by omega), if_neg (by omega)]
theorem kf_i (σ : xS) {k i : Nat} (hi : i < 7) : upd (kf σ k i 0) (42 * k + 2 + i) (σ 76 i) = kf σ k (i + 1) 0 := by
  funext x
  simp only [upd, kf]
  by_cases e : x = 42 * k + 2 + i
  · rw [if_pos e, if_neg (by omega), if_neg (by omega), if_pos (by omega), show x - (42 * k + 2) = i by omega]
  · rw [if_neg e]
    by_cases e2 : x = 42 * k
    · rw [if_pos e2, if_pos e2]
    · rw [if_neg e2, if_neg e2]
      by_cases e3 : x = 42 * k + 1
      · rw [if_pos e3, if_pos e3]
      · rw [if_neg e3, if_neg e3]
        by_cases e4 : 42 * k + 2 ≤ x ∧ x < 42 * k + 2 + i
        · rw [if_pos e4, if_pos (by omega)]
        · rw [if_neg e4, if_neg (c := 42 * k + 2 ≤ x ∧ x < 42 * k + 2 + (i + 1)) (by omega)]
theorem kf_j (σ : xS) {k j : Nat} (hj : j < 16) : upd (upd (kf σ k 7 j) (42 * k + 9 + j) (σ 77 j)) (42 * k + 25 + j) (σ 78 j) = kf σ k 7 (j + 1) := by
  funext x
  simp only [upd, kf]
  by_cases e : x = 42 * k + 25 + j
  · rw [if_pos e, if_neg (by omega), if_neg (by omega), if_neg (by omega), if_neg (by omega), if_pos (by omega), show x - (42 * k + 25) = j by omega]
  · rw [if_neg e]
    by_cases e' : x = 42 * k + 9 + j
    · rw [if_pos e', if_neg (by omega), if_neg (by omega), if_neg (by omega), if_pos (by omega), show x - (42 * k + 9) = j by omega]
    · rw [if_neg e']
      by_cases e2 : x = 42 * k
      · rw [if_pos e2, if_pos e2]
      · rw [if_neg e2, if_neg e2]
        by_cases e3 : x = 42 * k + 1
        · rw [if_pos e3, if_pos e3]
        · rw [if_neg e3, if_neg e3]
          by_cases e4 : 42 * k + 2 ≤ x ∧ x < 42 * k + 2 + 7
          · rw [if_pos e4, if_pos e4]
          · rw [if_neg e4, if_neg e4]
            by_cases e5 : 42 * k + 9 ≤ x ∧ x < 42 * k + 9 + j
            · rw [if_pos e5, if_pos (by omega)]
            · rw [if_neg e5, if_neg (c := 42 * k + 9 ≤ x ∧ x < 42 * k + 9 + (j + 1)) (by omega)]
              by_cases e6 : 42 * k + 25 ≤ x ∧ x < 42 * k + 25 + j
              · rw [if_pos e6, if_pos (by omega)]
              · rw [if_neg e6, if_neg (by omega)]
theorem e42 (k : Nat) : (42 : Int32) * nI k = nI (42 * k) := by rw [show (42 : Int32) = nI 42 from rfl, pk_mul]
theorem nI_2 (a : Nat) : nI a + 2 = nI (a + 2) := nI_add a 2
theorem nI_9 (a : Nat) : nI a + 9 = nI (a + 9) := nI_add a 9
theorem nI_25 (a : Nat) : nI a + 25 = nI (a + 25) := nI_add a 25
theorem e_M_keep_ok (σ : xS) (τ : xL) {k : Nat} (hk : k < 3) (h0 : ¬ σ 67 10 = 0) : Rn m_M_keep [.ref 67, .int (nI k)] σ τ (some (.int (σ 67 14))) (x_row σ 84 (kf σ k 7 16)) τ := by
  intro Q h
  refine ev_go 100 [26] ?_
  refine e_M_in σ τ _ 0 2 _ ?_
  refine bn_t (xb1 ⟨nI_pos (by omega), nI_nlt (a := 2) (by omega) (by decide)⟩) ?_
  refine bn_t h0 ?_
  show Ev m_M_keep 26 [.ref 67, .int (nI k), .int ((42 : Int32) * nI k), .null] [] x_g σ τ Q
  rw [e42]
  have second : Ev m_M_keep 80 [.ref 67, .int (nI k), .int (nI (42 * k)), .int (nI 0)] [] x_g (x_row σ 84 (kf σ k 7 0)) τ Q := by
    refine ev_iter (M := m_M_keep) (pc := 80) (st := []) (g := x_g) (Q := Q) 16 (fun j => ([.ref 67, .int (nI k), .int (nI (42 * k)), .int (nI j)], x_row σ 84 (kf σ k 7 j), τ)) (fun j hj kk => ?_) ?_
    · dsimp only at kk ⊢
      refine ev_go 100 [80] ?_
      refine br_f (nI_ge (b := 16) hj (by decide)) ?_
      refine ⟨16, rfl, q_in hj (by decide), ?_⟩
      refine ⟨126, rfl, by rw [nI_9, nI_add]; exact q_in (by omega) (by decide), ?_⟩
      refine ⟨16, rfl, q_in hj (by decide), ?_⟩
      refine ⟨126, rfl, by rw [nI_25, nI_add]; exact q_in (by omega) (by decide), ?_⟩
      show Ev m_M_keep 80 [.ref 67, .int (nI k), .int (nI (42 * k)), .int (nI j + 1)] [] x_g (x_row (x_row (x_row σ 84 (kf σ k 7 j)) 84 (upd (kf σ k 7 j) (nI (42 * k) + 9 + nI j).toNatClampNeg (σ 77 (nI j).toNatClampNeg))) 84 (upd (upd (kf σ k 7 j) (nI (42 * k) + 9 + nI j).toNatClampNeg (σ 77 (nI j).toNatClampNeg)) (nI (42 * k) + 25 + nI j).toNatClampNeg (σ 78 (nI j).toNatClampNeg))) τ Q
      rw [nI_1, nI_9, nI_25, nI_add, nI_add, cl7 (by omega), cl7 (by omega), cl7 (by omega), x_row_row, x_row_row, kf_j σ hj]
      exact kk
    · dsimp only
      refine ev_go 100 [80] ?_
      refine br_t (nI_le (b := 16) (a := 16) (Nat.le_refl 16) (by decide)) ?_
      exact h
  have first : Ev m_M_keep 50 [.ref 67, .int (nI k), .int (nI (42 * k)), .int (nI 0)] [] x_g (x_row σ 84 (kf σ k 0 0)) τ Q := by
    refine ev_iter (M := m_M_keep) (pc := 50) (st := []) (g := x_g) (Q := Q) 7 (fun j => ([.ref 67, .int (nI k), .int (nI (42 * k)), .int (nI j)], x_row σ 84 (kf σ k j 0), τ)) (fun j hj kk => ?_) ?_
    · dsimp only at kk ⊢
      refine ev_go 100 [50] ?_
      refine br_f (nI_ge (b := 7) hj (by decide)) ?_
      refine ⟨7, rfl, q_in hj (by decide), ?_⟩
      refine ⟨126, rfl, by rw [nI_2, nI_add]; exact q_in (by omega) (by decide), ?_⟩
      show Ev m_M_keep 50 [.ref 67, .int (nI k), .int (nI (42 * k)), .int (nI j + 1)] [] x_g (x_row (x_row σ 84 (kf σ k j 0)) 84 (upd (kf σ k j 0) (nI (42 * k) + 2 + nI j).toNatClampNeg (σ 76 (nI j).toNatClampNeg))) τ Q
      rw [nI_1, nI_2, nI_add, cl7 (by omega), cl7 (by omega), x_row_row, kf_i σ hj]
      exact kk
    · dsimp only
      refine ev_go 100 [80] ?_
      refine br_t (nI_le (b := 7) (a := 7) (Nat.le_refl 7) (by decide)) ?_
      exact second
  refine ev_go 100 [50] ?_
  refine ⟨126, rfl, q_in (by omega) (by decide), ?_⟩
  refine ⟨126, rfl, by rw [nI_1]; exact q_in (by omega) (by decide), ?_⟩
  show Ev m_M_keep 50 [.ref 67, .int (nI k), .int (nI (42 * k)), .int (nI 0)] [] x_g (x_row (x_row σ 84 (upd (σ 84) (nI (42 * k)).toNatClampNeg (σ 67 14))) 84 (upd (upd (σ 84) (nI (42 * k)).toNatClampNeg (σ 67 14)) (nI (42 * k) + 1).toNatClampNeg (σ 67 17))) τ Q
  rw [nI_1, cl7 (by omega), cl7 (by omega), x_row_row, kf_0]
  exact first
theorem k3 {o : Nat} (h : o < 3) : o = 0 ∨ o = 1 ∨ o = 2 := by omega
theorem Tk.rel {σ σ1 : xS} {o p : Nat} (h : Tk σ σ1 o p) {q : Nat} (hq : q < o ∨ o + 5 < q) : σ1 q = σ q := h.1 q (by simp only [List.mem_cons, List.not_mem_nil, or_false]; omega)
theorem pair_keep (k : Int32) : Pair m_S_keep m_M_keep [.int k] := by
  intro σ τ hR
  obtain ⟨P, hC, hM, hV, hK⟩ := hR.2.2.1
  have h7 := hV.1
  have h16 := hV.2.1
  refine ev_go 100 [] ?_
  have bad : (k < 0 ∨ nI 3 ≤ k) → Ev m_M_keep 0 (x_loc [.ref 67, .int k] m_M_keep.2.2.1) [] x_g σ τ (fun r2 g2 σ2 τ2 => g2 = x_g ∧ some (Value.int (-1)) = r2 ∧ (∃ v, some (Value.int (-1)) = some v) ∧ Rel σ2 τ2) := by
    intro h0
    refine ev_go 100 [] ?_
    refine e_M_in σ τ k 0 2 _ ?_
    refine bn_f (xb0 (fun q => h0.elim q.1 (fun z => q.2 ((q_lt_le k 2 (by decide)).mpr z)))) ?_
    exact ⟨rfl, rfl, ⟨_, rfl⟩, hR⟩
  refine And.intro (fun h1 => ⟨rfl, bad (Or.inl h1)⟩) (fun h1 => And.intro (fun h2 => ?_) (fun h2 => ⟨rfl, bad (Or.inr (Int32.not_lt.mp h2))⟩))
  obtain ⟨j, hj, rfl⟩ := (pk_ix k (n := 3) (by decide)).resolve_left h1 |>.resolve_left (fun z => Int32.not_lt.mpr z h2)
  by_cases hn : pn P = 0
  · refine bn_f (by rw [hC.1, hn]; rfl) ?_
    refine ⟨rfl, ?_⟩
    refine ev_go 100 [] ?_
    refine e_M_in σ τ _ 0 2 _ ?_
    refine bn_t (xb1 ⟨h1, nI_nlt (a := 2) (by omega) (by decide)⟩) ?_
    refine bn_f (by rw [hM.1, hn]; rfl) ?_
    exact ⟨rfl, rfl, ⟨_, rfl⟩, hR⟩
  · refine bn_t (by rw [hC.1]; exact nI_ne0 (by omega) (by omega)) ?_
    have fin : ∀ σ1, Tk σ σ1 (49 + 6 * j) 17 → Ev m_M_keep 0 (x_loc [.ref 67, .int (nI j)] m_M_keep.2.2.1) [] x_g σ1 τ (fun r2 g2 σ2 τ2 => g2 = x_g ∧ some (Value.int (σ1 17 1)) = r2 ∧ (∃ v, some (Value.int (σ1 17 1)) = some v) ∧ Rel σ2 τ2) := by
      intro σ1 hT
      have e1 : ∀ q, q < 49 ∨ 66 < q → σ1 q = σ q := fun q hq => hT.rel (by omega)
      have hM1 : PM σ1 P := hM.congr (by rw [e1 67 (by omega)]) (by rw [e1 67 (by omega)]) (by rw [e1 67 (by omega)]) (fun q q1 q2 => e1 q (by omega))
      have hC1 : PC σ1 17 P := hC.congr (fun q q1 q2 => e1 q (by omega))
      refine e_M_keep_ok σ1 τ hj (by rw [hM1.1]; exact nI_ne0 (by omega) (by omega)) _ ?_
      refine ⟨rfl, ?_, ⟨_, rfl⟩, ?_⟩
      · rw [hM1.2.1, hC1.2.1]
      · have e2 : ∀ q, q ≠ 84 → x_row σ1 84 (kf σ1 j 7 16) q = σ1 q := fun q hq => x_row_ne hq
        refine hR.pass (P := P) (hC1.congr (fun q q1 q2 => e2 q (by omega))) (hM1.congr (by rw [e2 67 (by omega)]) (by rw [e2 67 (by omega)]) (by rw [e2 67 (by omega)]) (fun q q1 q2 => e2 q (by omega))) hV (fun k' hk' => ?_) (fun q q1 => (e2 q (by omega)).trans (e1 q (by omega))) (fun q q1 q2 => (e2 q (by omega)).trans (e1 q (by omega))) (fun q q1 q2 => (e2 q (by omega)).trans (e1 q (by omega))) (fun j hj => by rw [e2 67 (by omega), e1 67 (by omega)])
        have e84 : x_row σ1 84 (kf σ1 j 7 16) 84 = kf σ1 j 7 16 := x_row_eq
        rw [e84]
        by_cases ek : k' = j
        · subst ek
          refine Or.inr ⟨P, (hT.pc hC hV).congr (fun q q1 q2 => e2 q (by omega)), hV, rfl, by omega, fun _ _ => ⟨rfl, rfl⟩, ?_, ?_, fun i hi => ?_, fun i hi => ⟨?_, ?_⟩⟩
          · simp only [kf, if_true]
            exact hM1.2.1
          · simp only [kf]
            rw [if_neg (by omega), if_pos trivial]
            exact hM1.2.2.1
          · simp only [kf]
            rw [if_neg (by omega), if_neg (by omega), if_pos (by omega), show 42 * k' + 2 + i - (42 * k' + 2) = i by omega]
            exact (hM1.2.2.2.1 i hi).2.2
          · simp only [kf]
            rw [if_neg (by omega), if_neg (by omega), if_neg (by omega), if_pos (by omega), show 42 * k' + 9 + i - (42 * k' + 9) = i by omega]
            exact (hM1.2.2.2.2 i hi).1
          · simp only [kf]
            rw [if_neg (by omega), if_neg (by omega), if_neg (by omega), if_neg (by omega), if_pos (by omega), show 42 * k' + 25 + i - (42 * k' + 25) = i by omega]
            exact (hM1.2.2.2.2 i hi).2
        · have ekf : ∀ x, 42 * k' ≤ x → x < 42 * k' + 42 → kf σ1 j 7 16 x = σ 84 x := fun x x1 x2 => by
            simp only [kf]
            rw [if_neg (by omega), if_neg (by omega), if_neg (by omega), if_neg (by omega), if_neg (by omega), e1 84 (by omega)]
          have ec : ∀ q, 49 + 6 * k' ≤ q → q ≤ 49 + 6 * k' + 5 → x_row σ1 84 (kf σ1 j 7 16) q = σ q := fun q q1 q2 => (e2 q (by omega)).trans (hT.rel (by omega))
          rcases hK k' hk' with hK | ⟨P', b1, b2, b3, b4, b5, b6, b7, b8, b9⟩
          · refine Or.inl ⟨by rw [ec _ (by omega) (by omega)]; exact hK.1, by rw [ekf _ (by omega) (by omega)]; exact hK.2⟩
          · refine Or.inr ⟨P', b1.congr ec, b2, b3, b4, b5, by rw [ekf _ (by omega) (by omega)]; exact b6, by rw [ekf _ (by omega) (by omega)]; exact b7, fun i hi => by rw [ekf _ (by omega) (by omega)]; exact b8 i hi, fun i hi => ?_⟩
            have := b2.2.1
            rw [ekf _ (by omega) (by omega), ekf _ (by omega) (by omega)]
            exact b9 i hi
    rcases k3 hj with rfl | rfl | rfl
    · refine ⟨19, 3, 49, rfl, Or.inr rfl, q_in (i := 0) (by decide) (by decide), rfl, ?_⟩
      refine e_P_takeFrom σ τ (o := 49) (p := 17) (by omega) _ (fun σ1 h1 => ?_)
      exact ⟨rfl, fin σ1 h1⟩
    · refine ⟨19, 3, 55, rfl, Or.inr rfl, q_in (i := 1) (by decide) (by decide), rfl, ?_⟩
      refine e_P_takeFrom σ τ (o := 55) (p := 17) (by omega) _ (fun σ1 h1 => ?_)
      exact ⟨rfl, fin σ1 h1⟩
    · refine ⟨19, 3, 61, rfl, Or.inr rfl, q_in (i := 2) (by decide) (by decide), rfl, ?_⟩
      refine e_P_takeFrom σ τ (o := 61) (p := 17) (by omega) _ (fun σ1 h1 => ?_)
      exact ⟨rfl, fin σ1 h1⟩
/-- a kept pass asked, and gone on from -/
theorem e_S_isKept (σ : xS) (τ : xL) {k : Nat} (hk : k < 3) : Rn m_S_isKept [.ref 0, .int (nI k)] σ τ (some (.int (x_b (¬ σ (49 + 6 * k) 0 ≤ 0)))) σ τ := by
  intro Q h
  have fin : ∀ (A : Prop), A → A := fun _ h => h
  rcases k3 hk with rfl | rfl | rfl
  · refine ev_go 100 [] ?_
    refine ⟨19, 3, 49, rfl, Or.inr rfl, q_in (i := 0) (by decide) (by decide), rfl, ?_⟩
    refine And.intro (fun h1 => ?_) (fun h1 => ?_)
    · rw [x_b_f (fun z => z h1)] at h
      exact ⟨Or.inl rfl, h⟩
    · rw [x_b_t h1] at h
      exact ⟨Or.inr rfl, h⟩
  · refine ev_go 100 [] ?_
    refine ⟨19, 3, 55, rfl, Or.inr rfl, q_in (i := 1) (by decide) (by decide), rfl, ?_⟩
    refine And.intro (fun h1 => ?_) (fun h1 => ?_)
    · rw [x_b_f (fun z => z h1)] at h
      exact ⟨Or.inl rfl, h⟩
    · rw [x_b_t h1] at h
      exact ⟨Or.inr rfl, h⟩
  · refine ev_go 100 [] ?_
    refine ⟨19, 3, 61, rfl, Or.inr rfl, q_in (i := 2) (by decide) (by decide), rfl, ?_⟩
    refine And.intro (fun h1 => ?_) (fun h1 => ?_)
    · rw [x_b_f (fun z => z h1)] at h
      exact ⟨Or.inl rfl, h⟩
    · rw [x_b_t h1] at h
      exact ⟨Or.inr rfl, h⟩
theorem rowput {σ : xS} {q i x : Nat} {v : Int32} : x_row σ q (upd (σ q) i v) q x = if x = i then v else σ q x := by
  rw [x_row_eq]
  rfl
/-- what the model takes back -/
def m_on1 (σ : xS) (k : Nat) : xS := x_row σ 67 (upd (upd (σ 67) 14 (σ 84 (42 * k))) 17 (σ 84 (42 * k + 1)))
theorem e_M_on_ok (σ : xS) (τ : xL) {k : Nat} (hk : k < 3) (h0 : ¬ σ 84 (42 * k) = -9) : Rs m_M_on [.ref 67, .int (nI k)] σ τ (some (.int (σ 84 (42 * k)))) (fun σ' => Ag [76, 77, 78] (m_on1 σ k) σ' ∧ (∀ i, i < 7 → σ' 76 i = σ 84 (42 * k + 2 + i)) ∧ ∀ j, j < 16 → σ' 77 j = σ 84 (42 * k + 9 + j) ∧ σ' 78 j = σ 84 (42 * k + 25 + j)) := by
  intro Q h
  refine ev_go 100 [16] ?_
  refine e_M_in σ τ _ 0 2 _ ?_
  refine bn_t (xb1 ⟨nI_pos (by omega), nI_nlt (a := 2) (by omega) (by decide)⟩) ?_
  show Ev m_M_on 16 [.ref 67, .int (nI k), .int ((42 : Int32) * nI k), .null] [] x_g σ τ Q
  rw [e42]
  have o84 : m_on1 σ k 84 = σ 84 := rfl
  have second : ∀ σ1, Ag [76] (m_on1 σ k) σ1 → (∀ i, i < 7 → σ1 76 i = σ 84 (42 * k + 2 + i)) → Ev m_M_on 87 [.ref 67, .int (nI k), .int (nI (42 * k)), .int (nI 0)] [] x_g σ1 τ Q := by
    intro σ1 hg1 h1
    refine ev_lp (M := m_M_on) (pc := 87) (st := []) (g := x_g) (Q := Q) (τ := τ) 16 (fun j => [.ref 67, .int (nI k), .int (nI (42 * k)), .int (nI j)]) (fun j σ' => Ag [77, 78] σ1 σ' ∧ ∀ x, x < j → σ' 77 x = σ 84 (42 * k + 9 + x) ∧ σ' 78 x = σ 84 (42 * k + 25 + x)) (fun j hj σ2 hI kk => ?_) (fun σ2 hI => ?_) σ1 ⟨Ag.refl, fun x hx => absurd hx (Nat.not_lt_zero x)⟩
    · obtain ⟨hg2, h2⟩ := hI
      have e84 : σ2 84 = σ 84 := (hg2 84 (by decide)).trans ((hg1 84 (by decide)).trans o84)
      refine ev_go 100 [87] ?_
      refine br_f (nI_ge (b := 16) hj (by decide)) ?_
      refine ⟨126, rfl, by rw [nI_9, nI_add]; exact q_in (by omega) (by decide), ?_⟩
      refine ⟨16, rfl, q_in hj (by decide), ?_⟩
      refine ⟨126, rfl, by rw [nI_25, nI_add]; exact q_in (by omega) (by decide), ?_⟩
      refine ⟨16, rfl, q_in hj (by decide), ?_⟩
      show Ev m_M_on 87 [.ref 67, .int (nI k), .int (nI (42 * k)), .int (nI j + 1)] [] x_g (x_row (x_row σ2 77 (upd (σ2 77) (nI j).toNatClampNeg (σ2 84 (nI (42 * k) + 9 + nI j).toNatClampNeg))) 78 (upd (σ2 78) (nI j).toNatClampNeg (σ2 84 (nI (42 * k) + 25 + nI j).toNatClampNeg))) τ Q
      rw [nI_1, nI_9, nI_25, nI_add, nI_add, cl7 (by omega), cl7 (by omega), cl7 (by omega), e84]
      refine kk _ ⟨(hg2.row (by decide)).row (by decide), fun x hx => ?_⟩
      rw [x_row_eq, x_row_ne (by decide), x_row_eq]
      simp only [upd]
      by_cases e : x = j
      · subst e
        simp
      · simp only [e, if_false]
        exact h2 x (by omega)
    · obtain ⟨hg2, h2⟩ := hI
      have e67 : σ2 67 = m_on1 σ k 67 := (hg2 67 (by decide)).trans (hg1 67 (by decide))
      refine ev_go 100 [87] ?_
      refine br_t (nI_le (b := 16) (a := 16) (Nat.le_refl 16) (by decide)) ?_
      have e : σ2 67 14 = σ 84 (42 * k) := by rw [e67]; rfl
      show Q (some (.int (σ2 67 14))) x_g σ2 τ
      rw [e]
      refine h _ ⟨(hg1.mono (by decide)).trans (hg2.mono (by decide)), fun i hi => ?_, h2⟩
      rw [hg2 76 (by decide)]
      exact h1 i hi
  have first : Ev m_M_on 57 [.ref 67, .int (nI k), .int (nI (42 * k)), .int (nI 0)] [] x_g (m_on1 σ k) τ Q := by
    refine ev_lp (M := m_M_on) (pc := 57) (st := []) (g := x_g) (Q := Q) (τ := τ) 7 (fun j => [.ref 67, .int (nI k), .int (nI (42 * k)), .int (nI j)]) (fun j σ' => Ag [76] (m_on1 σ k) σ' ∧ ∀ x, x < j → σ' 76 x = σ 84 (42 * k + 2 + x)) (fun j hj σ2 hI kk => ?_) (fun σ2 hI => ?_) (m_on1 σ k) ⟨Ag.refl, fun x hx => absurd hx (Nat.not_lt_zero x)⟩
    · obtain ⟨hg2, h2⟩ := hI
      have e84 : σ2 84 = σ 84 := (hg2 84 (by decide)).trans o84
      refine ev_go 100 [57] ?_
      refine br_f (nI_ge (b := 7) hj (by decide)) ?_
      refine ⟨126, rfl, by rw [nI_2, nI_add]; exact q_in (by omega) (by decide), ?_⟩
      refine ⟨7, rfl, q_in hj (by decide), ?_⟩
      show Ev m_M_on 57 [.ref 67, .int (nI k), .int (nI (42 * k)), .int (nI j + 1)] [] x_g (x_row σ2 76 (upd (σ2 76) (nI j).toNatClampNeg (σ2 84 (nI (42 * k) + 2 + nI j).toNatClampNeg))) τ Q
      rw [nI_1, nI_2, nI_add, cl7 (by omega), cl7 (by omega), e84]
      refine kk _ ⟨hg2.row (by decide), fun x hx => ?_⟩
      rw [x_row_eq]
      simp only [upd]
      by_cases e : x = j
      · subst e
        simp
      · simp only [e, if_false]
        exact h2 x (by omega)
    · refine ev_go 100 [87] ?_
      refine br_t (nI_le (b := 7) (a := 7) (Nat.le_refl 7) (by decide)) ?_
      exact second σ2 hI.1 hI.2
  refine ev_go 100 [57] ?_
  refine ⟨126, rfl, q_in (by omega) (by decide), ?_⟩
  refine bn_t (by rw [cl7 (by omega)]; exact h0) ?_
  refine ⟨126, rfl, q_in (by omega) (by decide), ?_⟩
  refine ⟨126, rfl, by rw [nI_1]; exact q_in (by omega) (by decide), ?_⟩
  show Ev m_M_on 57 [.ref 67, .int (nI k), .int (nI (42 * k)), .int (nI 0)] [] x_g (x_row (x_row σ 67 (upd (σ 67) 14 (σ 84 (nI (42 * k)).toNatClampNeg))) 67 (upd (upd (σ 67) 14 (σ 84 (nI (42 * k)).toNatClampNeg)) 17 (σ 84 (nI (42 * k) + 1).toNatClampNeg))) τ Q
  rw [nI_1, cl7 (by omega), cl7 (by omega), x_row_row]
  exact first
theorem pair_on (k : Int32) : Pair m_S_on m_M_on [.int k] := by
  intro σ τ hR
  obtain ⟨P, hC, hM, hV, hK⟩ := hR.2.2.1
  have h7 := hV.1
  have h16 := hV.2.1
  refine ev_go 100 [] ?_
  have bad : (k < 0 ∨ nI 3 ≤ k) → Ev m_M_on 0 (x_loc [.ref 67, .int k] m_M_on.2.2.1) [] x_g σ τ (fun r2 g2 σ2 τ2 => g2 = x_g ∧ some (Value.int (-1)) = r2 ∧ (∃ v, some (Value.int (-1)) = some v) ∧ Rel σ2 τ2) := by
    intro h0
    refine ev_go 100 [] ?_
    refine e_M_in σ τ k 0 2 _ ?_
    refine bn_f (xb0 (fun q => h0.elim q.1 (fun z => q.2 ((q_lt_le k 2 (by decide)).mpr z)))) ?_
    exact ⟨rfl, rfl, ⟨_, rfl⟩, hR⟩
  refine And.intro (fun h1 => ⟨rfl, bad (Or.inl h1)⟩) (fun h1 => And.intro (fun h2 => ?_) (fun h2 => ⟨rfl, bad (Or.inr (Int32.not_lt.mp h2))⟩))
  obtain ⟨j, hj, rfl⟩ := (pk_ix k (n := 3) (by decide)).resolve_left h1 |>.resolve_left (fun z => Int32.not_lt.mpr z h2)
  refine e_S_isKept σ τ hj _ ?_
  rcases hK j hj with hn | ⟨P', b1, b2, b3, b4, b5, b6, b7, b8, b9⟩
  · refine bn_f (xb0 (fun z => z (by rw [hn.1]; decide))) ?_
    refine e_S_refuse σ τ 1 in1 _ ?_
    refine ⟨rfl, ?_⟩
    have h84 : c_ref σ 1 84 = σ 84 := rfl
    refine ev_go 100 [16] ?_
    refine e_M_in _ τ _ 0 2 _ ?_
    refine bn_t (xb1 ⟨h1, nI_nlt (a := 2) (by omega) (by decide)⟩) ?_
    show Ev m_M_on 16 [.ref 67, .int (nI j), .int ((42 : Int32) * nI j), .null] [] x_g (c_ref σ 1) τ _
    rw [e42]
    refine ev_go 100 [] ?_
    refine ⟨126, rfl, q_in (by omega) (by decide), ?_⟩
    refine bn_f (by rw [cl7 (by omega)]; exact hn.2) ?_
    refine e_M_finds _ τ 1 in1 _ ?_
    exact ⟨rfl, rfl, ⟨_, rfl⟩, hR.find (f := 1) (by decide)⟩
  · have hn0 : 0 < pn P' := by omega
    have h7' := b2.1
    have h16' := b2.2.1
    refine bn_t (xb1 (by rw [b1.1]; exact nI_nle hn0 (by omega))) ?_
    have fin : ∀ σ1, Tk σ σ1 17 (49 + 6 * j) → Ev m_M_on 0 (x_loc [.ref 67, .int (nI j)] m_M_on.2.2.1) [] x_g σ1 τ (fun r2 g2 σ2 τ2 => g2 = x_g ∧ some (Value.int (σ1 17 1)) = r2 ∧ (∃ v, some (Value.int (σ1 17 1)) = some v) ∧ Rel σ2 τ2) := by
      intro σ1 hT
      have e1 : ∀ q, q < 17 ∨ 22 < q → σ1 q = σ q := fun q hq => hT.rel (by omega)
      have hC1 : PC σ1 17 P' := hT.pc b1 b2
      have e84 : σ1 84 = σ 84 := e1 84 (by omega)
      refine e_M_on_ok σ1 τ hj (by rw [e84, b6]; exact nI_ne9 (by omega)) _ (fun σ2 h2 => ?_)
      obtain ⟨hg, c1, c2⟩ := h2
      have e2 : ∀ q, q ≠ 67 → q ≠ 76 → q ≠ 77 → q ≠ 78 → σ2 q = σ1 q := fun q q1 q2 q3 q4 => (hg q (by simp [q2, q3, q4])).trans (x_row_ne q1)
      have e67 : σ2 67 = upd (upd (σ 67) 14 (σ 84 (42 * j))) 17 (σ 84 (42 * j + 1)) := by
        rw [hg 67 (by decide)]
        unfold m_on1
        rw [x_row_eq, e84, e1 67 (by omega)]
      refine ⟨rfl, ?_, ⟨_, rfl⟩, ?_⟩
      · rw [e84, b6, hC1.2.1]
      · have e12 : ∀ q, q < 17 ∨ 22 < q → q ≠ 67 → q ≠ 76 → q ≠ 77 → q ≠ 78 → σ2 q = σ q := fun q q0 q1 q2 q3 q4 => (e2 q q1 q2 q3 q4).trans (e1 q q0)
        refine hR.pass (P := P') (hC1.congr (fun q q1 q2 => e2 q (by omega) (by omega) (by omega) (by omega))) ⟨?_, ?_, ?_, fun i hi => ?_, fun i hi => ?_⟩ b2 ((hK.congr (fun q q1 q2 => e12 q (by omega) (by omega) (by omega) (by omega) (by omega)) (e12 84 (by omega) (by omega) (by omega) (by omega) (by omega))).of b3 b5) (fun q q1 => e12 q (by omega) (by omega) (by omega) (by omega) (by omega)) (fun q q1 q2 => e12 q (by omega) (by omega) (by omega) (by omega) (by omega)) (fun q q1 q2 => e12 q (by omega) (by omega) (by omega) (by omega) (by omega)) (fun j hj => ?_)
        · rw [e67, b3]
          exact hM.1
        · rw [e67]
          exact b6
        · rw [e67]
          exact b7
        · have hi' : i < pn P := by rw [← b3]; exact hi
          rw [e12 74 (by omega) (by omega) (by omega) (by omega) (by omega), e12 75 (by omega) (by omega) (by omega) (by omega) (by omega), c1 i (by omega), (b5 i hi').1, (b5 i hi').2, e84]
          exact ⟨(hM.2.2.2.1 i hi').1, (hM.2.2.2.1 i hi').2.1, b8 i hi'⟩
        · rw [(c2 i (by omega)).1, (c2 i (by omega)).2, e84]
          exact b9 i hi
        · rw [e67]
          simp only [upd]
          rw [if_neg (by omega), if_neg (by omega)]
    rcases k3 hj with rfl | rfl | rfl
    · refine ⟨19, 3, 49, rfl, Or.inr rfl, q_in (i := 0) (by decide) (by decide), rfl, ?_⟩
      refine e_P_takeFrom σ τ (o := 17) (p := 49) (by omega) _ (fun σ1 h1 => ?_)
      exact ⟨rfl, fin σ1 h1⟩
    · refine ⟨19, 3, 55, rfl, Or.inr rfl, q_in (i := 1) (by decide) (by decide), rfl, ?_⟩
      refine e_P_takeFrom σ τ (o := 17) (p := 55) (by omega) _ (fun σ1 h1 => ?_)
      exact ⟨rfl, fin σ1 h1⟩
    · refine ⟨19, 3, 61, rfl, Or.inr rfl, q_in (i := 2) (by decide) (by decide), rfl, ?_⟩
      refine e_P_takeFrom σ τ (o := 17) (p := 61) (by omega) _ (fun σ1 h1 => ?_)
      exact ⟨rfl, fin σ1 h1⟩
