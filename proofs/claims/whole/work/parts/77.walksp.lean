theorem pair_walks (r n s : Int32) : Pair m_S_walks m_M_walks [.int r, .int n, .int s] := by
  intro σ τ hR
  obtain ⟨P, hC, hM, hV, hK⟩ := hR.2.2.1
  have h7 := hV.1
  have h16 := hV.2.1
  refine ev_go 100 [87] ?_
  refine e_H_isNumber1 σ τ r _ ?_
  rcases q_ix r 6 (by decide) with h0 | ⟨k, hk, rfl⟩
  · refine br_t (xb0 (fun q => h0.elim q.1 q.2)) ?_
    refine ⟨rfl, ?_⟩
    refine ev_go 100 [] ?_
    refine e_M_isRow σ τ r _ ?_
    refine br_t (xb0 (fun q => h0.elim q.1 (fun z => q.2 ((q_5 r).mpr z)))) ?_
    exact ⟨rfl, rfl, ⟨_, rfl⟩, hR⟩
  refine br_f (xb1 (in_row6 hk)) ?_
  by_cases hn : ¬ n < 1 ∧ ¬ 16 < n
  case neg =>
    have bad : ∀ Q : xQ, Q (some (.int (-1))) x_g σ τ → Ev m_M_walks 0 (x_loc [.ref 67, .int (nI k), .int n, .int s] m_M_walks.2.2.1) [] x_g σ τ Q := by
      intro Q h
      refine ev_go 100 [] ?_
      refine e_M_isRow σ τ _ _ ?_
      refine br_f (xb1 (in_row hk)) ?_
      refine e_M_in σ τ _ _ _ _ ?_
      refine br_t (xb0 hn) ?_
      exact h
    by_cases h1 : n < 1
    · refine br_t h1 ?_
      refine ⟨rfl, ?_⟩
      exact bad _ ⟨rfl, rfl, ⟨_, rfl⟩, hR⟩
    · refine br_f h1 ?_
      refine br_t (Classical.byContradiction (fun z => hn ⟨h1, z⟩)) ?_
      refine ⟨rfl, ?_⟩
      exact bad _ ⟨rfl, rfl, ⟨_, rfl⟩, hR⟩
  refine br_f hn.1 ?_
  refine br_f hn.2 ?_
  by_cases hs : ¬ s < 1 ∧ ¬ 2147483646 < s
  case neg =>
    have bad : ∀ Q : xQ, Q (some (.int (-1))) x_g σ τ → Ev m_M_walks 0 (x_loc [.ref 67, .int (nI k), .int n, .int s] m_M_walks.2.2.1) [] x_g σ τ Q := by
      intro Q h
      refine ev_go 100 [] ?_
      refine e_M_isRow σ τ _ _ ?_
      refine br_f (xb1 (in_row hk)) ?_
      refine e_M_in σ τ _ _ _ _ ?_
      refine br_f (xb1 hn) ?_
      refine e_M_in σ τ _ _ _ _ ?_
      refine bn_f (xb0 hs) ?_
      exact h
    by_cases h1 : s < 1
    · refine br_t h1 ?_
      refine ⟨rfl, ?_⟩
      exact bad _ ⟨rfl, rfl, ⟨_, rfl⟩, hR⟩
    · refine br_f h1 ?_
      refine br_f (fun z => hs ⟨h1, (lot_lt s).mp z⟩) ?_
      refine ⟨rfl, ?_⟩
      exact bad _ ⟨rfl, rfl, ⟨_, rfl⟩, hR⟩
  refine br_f hs.1 ?_
  refine br_t ((lot_lt s).mpr hs.2) ?_
  have goM : ∀ (σ : xS) (τ : xL) (Q : xQ), Ev m_M_walks 30 [.ref 67, .int (nI k), .int n, .int s, .null, .null, .null, .null, .null, .null, .null, .null] [] x_g σ τ Q → Ev m_M_walks 0 (x_loc [.ref 67, .int (nI k), .int n, .int s] m_M_walks.2.2.1) [] x_g σ τ Q := by
    intro σ τ Q h
    refine ev_go 100 [30] ?_
    refine e_M_isRow σ τ _ _ ?_
    refine br_f (xb1 (in_row hk)) ?_
    refine e_M_in σ τ _ _ _ _ ?_
    refine br_f (xb1 hn) ?_
    refine e_M_in σ τ _ _ _ _ ?_
    refine bn_t (xb1 hs) ?_
    exact h
  by_cases h2 : 2 ≤ pn P
  case neg =>
    refine br_f (by rw [hC.1]; exact nI_ge (b := 2) (by omega) (by decide)) ?_
    refine ⟨rfl, ?_⟩
    refine goM σ τ _ ?_
    refine ev_go 100 [] ?_
    refine br_f (by rw [hM.1]; exact nI_ge (b := 2) (by omega) (by decide)) ?_
    exact ⟨rfl, rfl, ⟨_, rfl⟩, hR⟩
  refine br_t (by rw [hC.1]; exact nI_le (a := 2) h2 (by omega)) ?_
  have hVV : ∀ i, i < 40 → σ (3 + k) i = σ 70 (40 * k + i) := (hR.1.2 k hk).2
  have b2 : (2 : Int32) ≤ nI (pn P) := nI_le (a := 2) h2 (by omega)
  rcases hR.1.size hk with ⟨s1, s2⟩ | ⟨z, hz, s1, s2⟩
  · refine e_S_findingOfOrder_no σ τ hk s1 _ ?_
    refine br_f (by decide) ?_
    refine e_S_refuse σ τ 1 in1 _ ?_
    refine ⟨rfl, ?_⟩
    refine goM _ τ _ ?_
    refine ev_go 100 [] ?_
    refine br_t (by rw [(hM.ag (Ag.cref (f := 1)) (by decide)).1]; exact b2) ?_
    refine e_M_orderBar_no (c_ref σ 1) τ hk (by rw [Ag.cref 69 (by decide)]; exact s2) _ ?_
    refine br_f (by decide) ?_
    exact ⟨rfl, rfl, ⟨_, rfl⟩, hR.find (f := 1) (by decide)⟩
  by_cases hne : z = pn P
  case neg =>
    refine e_S_findingOfOrder_sz σ τ hC hV hk hz s1 hne _ ?_
    refine br_f (by decide) ?_
    refine e_S_refuse σ τ 5 in5 _ ?_
    refine ⟨rfl, ?_⟩
    refine goM _ τ _ ?_
    refine ev_go 100 [] ?_
    refine br_t (by rw [(hM.ag (Ag.cref (f := 5)) (by decide)).1]; exact b2) ?_
    refine e_M_orderBar_sz (c_ref σ 5) τ (hM.ag Ag.cref (by decide)) hV hk hz (by rw [Ag.cref 69 (by decide)]; exact s2) hne _ ?_
    refine br_f (by decide) ?_
    exact ⟨rfl, rfl, ⟨_, rfl⟩, hR.find (f := 5) (by decide)⟩
  subst hne
  rcases ord_cases (V := σ (3 + k)) (n := pn P) with ⟨t, ht, hg, hb⟩ | hg
  · refine e_S_findingOfOrder_un σ τ hC hV hk s1 ht hg hb _ ?_
    refine br_f (by decide) ?_
    refine e_S_refuse σ τ 3 in3 _ ?_
    refine ⟨rfl, ?_⟩
    refine goM _ τ _ ?_
    refine ev_go 100 [] ?_
    refine br_t (by rw [(hM.ag (Ag.cref (f := 3)) (by decide)).1]; exact b2) ?_
    refine e_M_orderBar_un (c_ref σ 3) τ (hM.ag Ag.cref (by decide)) hV hk (V := σ (3 + k)) (fun i hi => by rw [Ag.cref 70 (by decide)]; exact hVV i hi) (by rw [Ag.cref 69 (by decide)]; exact s2) ht hg hb _ (fun σ2 h2 => ?_)
    obtain ⟨σ3, hA, rfl⟩ := h2
    refine br_f (by decide) ?_
    exact ⟨rfl, rfl, ⟨_, rfl⟩, hR.fnd (L1 := []) Ag.refl (by decide) (f := 3) (by decide) hA (by decide)⟩
  refine e_S_findingOfOrder_ok σ τ hC hV hk s1 hg _ ?_
  refine br_t rfl ?_
  have n0 : ¬ n < 0 := fun z => hn.1 (q_lt01 z)
  obtain ⟨N, hN31, rfl⟩ := nI_of n0
  have hN : N ≤ 16 := Classical.byContradiction (fun z => hn.2 (nI_lt (a := 16) (by omega) hN31))
  have s0 : ¬ s < 0 := fun z => hs.1 (q_lt01 z)
  obtain ⟨S, hS, rfl⟩ := nI_of s0
  have hp0 : 0 < pn P := by omega
  have hlp := ev_lp (M := m_S_walks) (pc := 87) (st := []) (g := x_g) (τ := τ) (Q := fun r1 g1 σ1 τ1 => g1 = x_g ∧ Ev m_M_walks 0 (x_loc (.ref 67 :: [.int (nI k), .int (nI N), .int (nI S)]) m_M_walks.2.2.1) [] x_g σ1 τ1 (fun r2 g2 σ2 τ2 => g2 = x_g ∧ r1 = r2 ∧ (∃ v, r1 = some v) ∧ Rel σ2 τ2)) N (fun i => [.ref 0, .int (nI k), .int (nI N), .int (nI S), .int 0, .int (nI (pc P)), .long (lN (wks (σ (3 + k)) S P i).1), .null, .int (nI i)]) (fun i σ' => Ag [17, 21, 22] σ σ' ∧ PC σ' 17 (wks (σ (3 + k)) S P i).2) (fun i hi σ1 hI kk => ?_) (fun σ1 hI => ?_) σ ⟨Ag.refl, hC⟩
  · show Ev m_S_walks 87 [.ref 0, .int (nI k), .int (nI N), .int (nI S), .int 0, .int (σ 17 1), .long (nI S).toInt64, .null, .int 0] [] x_g σ τ _
    rw [hC.2.1, nI_l hS]
    exact hlp
  · obtain ⟨hA, hC1⟩ := hI
    obtain ⟨b1, b2, b3, b4, b5, b6⟩ := wks_ok (V := σ (3 + k)) (s := S) hV hp0 hS i
    simp only [wks] at kk
    generalize (wks (σ (3 + k)) S P i).1 = x at *
    generalize (wks (σ (3 + k)) S P i).2 = R at *
    have hxm := Nat.mod_lt (x * 48271) (show 2147483647 > 0 by decide)
    have m1 := Nat.mod_lt (x * 48271 % 2147483647) hp0
    have m2 := Nat.mod_lt (x * 48271 % 2147483647 / 64) hp0
    have hn1 : σ1 17 0 = nI (pn P) := by rw [hC1.1, b2]
    refine ev_go 100 [87] ?_
    refine br_f (nI_ge hi (by omega)) ?_
    refine ⟨by decide, ?_⟩
    rw [lot_next b6]
    generalize x * 48271 % 2147483647 = y at *
    refine ⟨by rw [hn1]; exact nI_l0 (by omega) hp0, ?_⟩
    rw [hn1, lot_al (by omega) hp0 (by omega)]
    refine ⟨by decide, ?_⟩
    rw [lN_i]
    refine ⟨by rw [hn1]; exact nI_l0 (by omega) hp0, ?_⟩
    rw [hn1, lot_bl (by omega) hp0 (by omega)]
    refine e_S_walk σ1 τ hC1 b1 hk (V := σ (3 + k)) (a := y % pn P) (b := y / 64 % pn P) (hA (3 + k) (by simp; omega)).symm (by rw [hA 9 (by decide), b2]; exact s1) (by rw [b2]; exact hg) (by rw [b2]; exact m1) (by rw [b2]; exact m2) rfl (lN_i _) _ (fun σ2 h2 => ?_)
    show Ev m_S_walks 87 [.ref 0, .int (nI k), .int (nI N), .int (nI S), .int 0, .int (nI (pc P)), .long (lN y), .null, .int (nI i + 1)] [] x_g σ2 τ _
    rw [nI_1]
    exact kk σ2 ⟨hA.trans h2.1, h2.2⟩
  obtain ⟨hA, hC1⟩ := hI
  obtain ⟨b1, b2, b3, b4, b5, b6⟩ := wks_ok (V := σ (3 + k)) (s := S) hV hp0 hS N
  have hM1 := hM.ag hA (by decide)
  refine ev_go 100 [] ?_
  refine br_t (nI_le (Nat.le_refl _) (by omega)) ?_
  refine ⟨rfl, ?_⟩
  refine goM σ1 τ _ ?_
  refine ev_go 100 [66] ?_
  refine br_t (by rw [hM1.1]; exact nI_le (a := 2) h2 (by omega)) ?_
  refine e_M_orderBar_ok σ1 τ hM1 hV hk (V := σ (3 + k)) (fun i hi => by rw [hA 70 (by decide)]; exact hVV i hi) (by rw [hA 69 (by decide)]; exact s2) hg _ (fun σ2 h2 => ?_)
  obtain ⟨hA2, hp⟩ := h2
  have hM2 := hM1.ag hA2 (by decide)
  refine br_t rfl ?_
  show Ev m_M_walks 66 [.ref 67, .int (nI k), .int (nI N), .int (nI S), .int 0, .long (nI S).toInt64, .null, .int 0, .int 0, .null, .null, .null] [] x_g σ2 τ _
  rw [nI_l hS]
  refine e_M_walks_go σ2 τ hM2 hV hp0 hN hS hg hp (fun u σ3 hA3 hj hM3 => ?_)
  refine ev_go 100 [] ?_
  refine br_t (nI_le (Nat.le_refl _) (by omega)) ?_
  refine ⟨rfl, (by rw [← pk_sub b5, ← hC1.2.1] : some (Value.int (σ1 17 1 - nI (pc P))) = some (Value.int (nI (pc (wks (σ (3 + k)) S P N).2 - pc P)))), ⟨_, rfl⟩, ?_⟩
  have hg3 : Ag [17, 21, 22, 67, 77, 78, 88] σ σ3 := ((hA.mono (by decide)).trans (hA2.mono (by decide))).trans (hA3.mono (by decide))
  have e : ∀ q, q ≠ 17 → q ≠ 21 → q ≠ 22 → q ≠ 67 → q ≠ 77 → q ≠ 78 → q ≠ 88 → σ3 q = σ q := fun q q1 q2 q3 q4 q5 q6 q7 => hg3 q (by simp [q1, q2, q3, q4, q5, q6, q7])
  refine hR.pass (P := (wks (σ (3 + k)) S P N).2) ((hC1.ag hA2 (by decide)).ag hA3 (by decide)) hM3 b1 ((hK.congr (fun q q1 q2 => e q (by omega) (by omega) (by omega) (by omega) (by omega) (by omega) (by omega)) (e 84 (by omega) (by omega) (by omega) (by omega) (by omega) (by omega) (by omega))).of b2 (fun i _ => ⟨by rw [b3], by rw [b4]⟩)) (fun q q1 => e q (by omega) (by omega) (by omega) (by omega) (by omega) (by omega) (by omega)) (fun q q1 q2 => e q (by omega) (by omega) (by omega) (by omega) (by omega) (by omega) (by omega)) (fun q q1 q2 => e q (by omega) (by omega) (by omega) (by omega) (by omega) (by omega) (by omega)) (fun j hj2 => ?_)
  rw [hj j (by omega), hA2 67 (by decide), hA 67 (by decide)]
