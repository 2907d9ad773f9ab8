/-! AN ORDER JUDGED -/
def jd (f : Nat → Bool) (c : Nat) : Nat → Nat × Nat
  | 0 => (c, 0)
  | i + 1 => if f (c - 1 - i) = true then (c - 1 - i, (jd f c i).2 + 1) else jd f c i
/-- crossings that tell against an order -/
def agn (P : xP) (V : Nat → Int32) : Nat → Bool := fun k => tl P k && decide (ps V (pn P) (po P k) < ps V (pn P) (pu P k))
theorem ord_cases {V : Nat → Int32} {n : Nat} : (∃ t, t < n ∧ (∀ i, i < t → gd V n i) ∧ ¬ gd V n t) ∨ ∀ i, i < n → gd V n i := by
  by_cases h : ∃ t, t < n ∧ ¬ gd V n t
  · obtain ⟨t, h1, h2⟩ := h
    obtain ⟨u, a, b, c⟩ := least (p := fun t => ¬ gd V n t) t h2
    exact Or.inl ⟨u, by omega, fun i hi => Classical.byContradiction (c i hi), b⟩
  · exact Or.inr (fun i hi => Classical.byContradiction (fun z => h ⟨i, hi, z⟩))
theorem gd_congr {V W : Nat → Int32} {n : Nat} (hn : n ≤ 40) (h : ∀ i, i < 40 → V i = W i) {i : Nat} (hi : i < n) (hg : gd V n i) : gd W n i := by
  obtain ⟨j, a, b, c⟩ := hg
  exact ⟨j, a, by rw [← h i (by omega)]; exact b, fun x hx => by rw [← h x (by omega)]; exact c x hx⟩
theorem pair_judge (r : Int32) : Pair m_S_judge m_M_judge [.int r] := by
  intro σ τ hR
  obtain ⟨P, hC, hM, hV, hK⟩ := hR.2.2.1
  have h7 := hV.1
  have h16 := hV.2.1
  refine ev_go 100 [51] ?_
  refine e_H_isNumber1 σ τ r _ ?_
  rcases q_ix r 6 (by decide) with h0 | ⟨k, hk, rfl⟩
  · refine bn_f (xb0 (fun q => h0.elim q.1 q.2)) ?_
    refine ⟨rfl, ?_⟩
    refine ev_go 100 [] ?_
    refine e_M_isRow σ τ r _ ?_
    refine bn_f (xb0 (fun q => h0.elim q.1 (fun z => q.2 ((q_5 r).mpr z)))) ?_
    exact ⟨rfl, rfl, ⟨_, rfl⟩, hR⟩
  refine bn_t (xb1 (in_row6 hk)) ?_
  have hVV : ∀ i, i < 40 → σ (3 + k) i = σ 70 (40 * k + i) := (hR.1.2 k hk).2
  rcases hR.1.size hk with ⟨s1, s2⟩ | ⟨n, hn, s1, s2⟩
  · refine e_S_findingOfOrder_no σ τ hk s1 _ ?_
    refine br_f (by decide) ?_
    refine e_S_refuse σ τ 1 in1 _ ?_
    refine ⟨rfl, ?_⟩
    refine ev_go 100 [] ?_
    refine e_M_isRow _ τ _ _ ?_
    refine bn_t (xb1 (in_row hk)) ?_
    refine e_M_orderBar_no (c_ref σ 1) τ hk (by rw [Ag.cref 69 (by decide)]; exact s2) _ ?_
    refine br_f (by decide) ?_
    exact ⟨rfl, rfl, ⟨_, rfl⟩, hR.find (f := 1) (by decide)⟩
  by_cases hne : n = pn P
  case neg =>
    refine e_S_findingOfOrder_sz σ τ hC hV hk hn s1 hne _ ?_
    refine br_f (by decide) ?_
    refine e_S_refuse σ τ 5 in5 _ ?_
    refine ⟨rfl, ?_⟩
    refine ev_go 100 [] ?_
    refine e_M_isRow _ τ _ _ ?_
    refine bn_t (xb1 (in_row hk)) ?_
    refine e_M_orderBar_sz (c_ref σ 5) τ (hM.ag Ag.cref (by decide)) hV hk hn (by rw [Ag.cref 69 (by decide)]; exact s2) hne _ ?_
    refine br_f (by decide) ?_
    exact ⟨rfl, rfl, ⟨_, rfl⟩, hR.find (f := 5) (by decide)⟩
  subst hne
  rcases ord_cases (V := σ (3 + k)) (n := pn P) with ⟨t, ht, hg, hb⟩ | hg
  · refine e_S_findingOfOrder_un σ τ hC hV hk s1 ht hg hb _ ?_
    refine br_f (by decide) ?_
    refine e_S_refuse σ τ 3 in3 _ ?_
    refine ⟨rfl, ?_⟩
    refine ev_go 100 [] ?_
    refine e_M_isRow _ τ _ _ ?_
    refine bn_t (xb1 (in_row hk)) ?_
    refine e_M_orderBar_un (c_ref σ 3) τ (hM.ag Ag.cref (by decide)) hV hk (V := σ (3 + k)) (fun i hi => by rw [Ag.cref 70 (by decide)]; exact hVV i hi) (by rw [Ag.cref 69 (by decide)]; exact s2) ht hg hb _ (fun σ2 h2 => ?_)
    obtain ⟨σ3, hA, rfl⟩ := h2
    refine br_f (by decide) ?_
    exact ⟨rfl, rfl, ⟨_, rfl⟩, hR.fnd (L1 := []) Ag.refl (by decide) (f := 3) (by decide) hA (by decide)⟩
  refine e_S_findingOfOrder_ok σ τ hC hV hk s1 hg _ ?_
  refine br_t rfl ?_
  have hlp := ev_iter (M := m_S_judge) (pc := 51) (st := []) (g := x_g) (Q := fun r1 g1 σ1 τ1 => g1 = x_g ∧ Ev m_M_judge 0 (x_loc (.ref 67 :: [.int (nI k)]) m_M_judge.2.2.1) [] x_g σ1 τ1 (fun r2 g2 σ2 τ2 => g2 = x_g ∧ r1 = r2 ∧ (∃ v, r1 = some v) ∧ Rel σ2 τ2)) (pc P) (fun i => ([.ref 0, .int (nI k), .int 0, .int (nI (jd (agn P (σ (3 + k))) (pc P) i).1), .int (nI (jd (agn P (σ (3 + k))) (pc P) i).2), .int (nI (pc P - i) - 1)], σ, τ)) (fun i hi kk => ?_) ?_
  · show Ev m_S_judge 51 [.ref 0, .int (nI k), .int 0, .int (σ 17 1), .int 0, .int (σ 17 1 - 1)] [] x_g σ τ _
    rw [hC.2.1]
    exact hlp
  · dsimp only at kk ⊢
    obtain ⟨s, hs⟩ : ∃ s, pc P - i = s + 1 := ⟨pc P - i - 1, by omega⟩
    have es : pc P - 1 - i = s := by omega
    have es2 : pc P - (i + 1) = s := by omega
    have hsc : s < pc P := by omega
    obtain ⟨p1, p2, p3⟩ := hV.2.2.2.2 s hsc
    have ba := (ps_ok h7 hg p1).1
    have bb := (ps_ok h7 hg p2).1
    rw [es2] at kk
    simp only [jd, es] at kk
    rw [hs, nI_pred]
    refine ev_go 100 [51] ?_
    refine br_f (nI_pos (by omega)) ?_
    refine e_P_tells σ τ hC hV hsc _ ?_
    by_cases ht : tl P s = true
    · refine br_f (xb1 ht) ?_
      refine ⟨16, rfl, q_in (by omega) (by decide), ?_⟩
      rw [cl7 (by omega), (hC.2.2.2.2 s hsc).1]
      refine e_H_indexOf σ τ hk h7 s1 hg p1 _ ?_
      refine ⟨16, rfl, q_in (by omega) (by decide), ?_⟩
      rw [cl7 (by omega), (hC.2.2.2.2 s hsc).2]
      refine e_H_indexOf σ τ hk h7 s1 hg p2 _ ?_
      by_cases hl : ps (σ (3 + k)) (pn P) (po P s) < ps (σ (3 + k)) (pn P) (pu P s)
      · refine br_f (nI_ge hl (by omega)) ?_
        rw [if_pos (show agn P (σ (3 + k)) s = true by simp [agn, ht, hl])] at kk
        show Ev m_S_judge 51 [.ref 0, .int (nI k), .int 0, .int (nI s), .int (nI (jd (agn P (σ (3 + k))) (pc P) i).2 + 1), .int (nI s + (-1))] [] x_g σ τ _
        rw [m1_sub, nI_1]
        exact kk
      · refine br_t (nI_le (by omega) (by omega)) ?_
        rw [if_neg (show ¬ agn P (σ (3 + k)) s = true by simp [agn, hl])] at kk
        show Ev m_S_judge 51 [.ref 0, .int (nI k), .int 0, .int (nI (jd (agn P (σ (3 + k))) (pc P) i).1), .int (nI (jd (agn P (σ (3 + k))) (pc P) i).2), .int (nI s + (-1))] [] x_g σ τ _
        rw [m1_sub]
        exact kk
    · refine br_t (xb0 ht) ?_
      rw [if_neg (show ¬ agn P (σ (3 + k)) s = true by simp [agn, ht])] at kk
      show Ev m_S_judge 51 [.ref 0, .int (nI k), .int 0, .int (nI (jd (agn P (σ (3 + k))) (pc P) i).1), .int (nI (jd (agn P (σ (3 + k))) (pc P) i).2), .int (nI s + (-1))] [] x_g σ τ _
      rw [m1_sub]
      exact kk
  dsimp only
  rw [Nat.sub_self]
  refine ev_go 100 [] ?_
  refine br_t (by decide) ?_
  refine ⟨rfl, ?_⟩
  generalize hw : jd (agn P (σ (3 + k))) (pc P) (pc P) = w
  have hT : Ag [0] σ (c_told σ (nI w.2)) := Ag.ctold
  refine ev_go 100 [37] ?_
  refine e_M_isRow (c_told σ (nI w.2)) τ _ _ ?_
  refine bn_t (xb1 (in_row hk)) ?_
  refine e_M_orderBar_ok (c_told σ (nI w.2)) τ (hM.ag hT (by decide)) hV hk (V := σ (3 + k)) (fun i hi => by rw [hT 70 (by decide)]; exact hVV i hi) (by rw [hT 69 (by decide)]; exact s2) hg _ (fun σ2 h2 => ?_)
  obtain ⟨hA, hp⟩ := h2
  have hM2 := (hM.ag hT (by decide)).ag hA (by decide)
  refine br_t rfl ?_
  have hlm := ev_lj (α := Value) (M := m_M_judge) (pc := 37) (st := []) (g := x_g) (τ := τ) (Q := fun r2 g2 σ2 τ2 => g2 = x_g ∧ some (Value.int (nI w.1)) = r2 ∧ (∃ v, some (Value.int (nI w.1)) = some v) ∧ Rel σ2 τ2) (pc P) (fun i u => [.ref 67, .int (nI k), .int 0, .int (nI (jd (agn P (σ (3 + k))) (pc P) i).1), .int (nI (jd (agn P (σ (3 + k))) (pc P) i).2), .int (nI (pc P - i) - 1), u]) (fun _ σ' => σ' = σ2) (fun i hi u σ' hI kk => ?_) (fun u σ' hI => ?_) .null σ2 rfl
  · show Ev m_M_judge 37 [.ref 67, .int (nI k), .int 0, .int (σ2 67 14), .int 0, .int (σ2 67 14 - 1), .null] [] x_g σ2 τ _
    rw [hM2.2.1]
    exact hlm
  · subst hI
    obtain ⟨s, hs⟩ : ∃ s, pc P - i = s + 1 := ⟨pc P - i - 1, by omega⟩
    have es : pc P - 1 - i = s := by omega
    have es2 : pc P - (i + 1) = s := by omega
    have hsc : s < pc P := by omega
    obtain ⟨p1, p2, p3⟩ := hV.2.2.2.2 s hsc
    have ba := (ps_ok h7 hg p1).1
    have bb := (ps_ok h7 hg p2).1
    simp only [jd, es, es2] at kk
    rw [hs, nI_pred]
    refine ev_go 100 [37] ?_
    refine br_f (nI_pos (by omega)) ?_
    refine e_M_isTelling σ' τ hM2 hV hsc _ ?_
    by_cases ht : tl P s = true
    · refine br_f (xb1 ht) ?_
      refine ⟨16, rfl, q_in (by omega) (by decide), ?_⟩
      rw [cl7 (by omega), (hM2.2.2.2.2 s hsc).2]
      refine ⟨7, rfl, q_in (by omega) (by decide), ?_⟩
      rw [cl7 (by omega), hp _ p2]
      refine ⟨16, rfl, q_in (by omega) (by decide), ?_⟩
      rw [cl7 (by omega), (hM2.2.2.2.2 s hsc).1]
      refine ⟨7, rfl, q_in (by omega) (by decide), ?_⟩
      rw [cl7 (by omega), hp _ p1]
      by_cases hl : ps (σ (3 + k)) (pn P) (po P s) < ps (σ (3 + k)) (pn P) (pu P s)
      · refine br_f (nI_ge hl (by omega)) ?_
        rw [if_pos (show agn P (σ (3 + k)) s = true by simp [agn, ht, hl])] at kk
        refine br_f (by decide) ?_
        refine br_f (by decide) ?_
        show Ev m_M_judge 37 [.ref 67, .int (nI k), .int 0, .int (nI s), .int (nI (jd (agn P (σ (3 + k))) (pc P) i).2 + 1), .int (nI s + (-1)), .int 1] [] x_g σ' τ _
        rw [m1_sub, nI_1]
        exact kk _ _ rfl
      · refine br_t (nI_le (by omega) (by omega)) ?_
        rw [if_neg (show ¬ agn P (σ (3 + k)) s = true by simp [agn, hl])] at kk
        refine br_t rfl ?_
        refine br_t rfl ?_
        show Ev m_M_judge 37 [.ref 67, .int (nI k), .int 0, .int (nI (jd (agn P (σ (3 + k))) (pc P) i).1), .int (nI (jd (agn P (σ (3 + k))) (pc P) i).2 + 0), .int (nI s + (-1)), .int 0] [] x_g σ' τ _
        rw [m1_sub, Int32.add_zero]
        exact kk _ _ rfl
    · refine br_t (xb0 ht) ?_
      rw [if_neg (show ¬ agn P (σ (3 + k)) s = true by simp [agn, ht])] at kk
      refine br_t rfl ?_
      refine br_t rfl ?_
      show Ev m_M_judge 37 [.ref 67, .int (nI k), .int 0, .int (nI (jd (agn P (σ (3 + k))) (pc P) i).1), .int (nI (jd (agn P (σ (3 + k))) (pc P) i).2 + 0), .int (nI s + (-1)), .int 0] [] x_g σ' τ _
      rw [m1_sub, Int32.add_zero]
      exact kk _ _ rfl
  · subst hI
    rw [Nat.sub_self, hw]
    refine ev_go 100 [] ?_
    refine br_t (by decide) ?_
    refine e_M_tells σ' τ _ _ _ ?_
    exact ⟨rfl, rfl, ⟨_, rfl⟩, hR.tld (L1 := []) Ag.refl (by decide) hA (by decide)⟩
