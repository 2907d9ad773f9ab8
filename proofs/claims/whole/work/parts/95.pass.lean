/-! A PASS READ AND TAKEN -/
def clr (σ : xS) (o : Nat) : xS := x_row (x_row σ o (upd (σ o) 0 0)) o (upd (x_row σ o (upd (σ o) 0 0) o) 1 0)
theorem e_P_clear (σ : xS) (τ : xL) {o : Nat} (ho : o = 49 ∨ o = 55 ∨ o = 61) : Rn m_P_clear [.ref o] σ τ none (clr σ o) τ := by
  intro Q h
  rcases ho with rfl | rfl | rfl
  · refine ev_go 100 [] ?_
    exact h
  · refine ev_go 100 [] ?_
    exact h
  · refine ev_go 100 [] ?_
    exact h
theorem Ag.clr {σ : xS} {o : Nat} : Ag [o] σ (clr σ o) := (Ag.refl.row (by simp)).row (by simp)
theorem clr_0 {σ : xS} {o : Nat} : clr σ o o 0 = 0 := by
  simp [clr, x_row, upd]
/-- the model takes what was read -/
def m_take (σ : xS) : xS := x_row (x_row σ 67 (upd (σ 67) 10 (σ 67 19))) 67 (upd (upd (σ 67) 10 (σ 67 19)) 14 (σ 67 20))
set_option maxHeartbeats 2000000 in
theorem e_M_pass_go (σ : xS) (τ : xL) {v1 v2 : Int32} {Q : xQ} (kend : ∀ σ', Ag [74, 75, 76, 77, 78, 84] σ σ' → (∀ j, j < 7 → σ' 74 j = σ 79 j ∧ σ' 75 j = σ 80 j ∧ σ' 76 j = σ 81 j) → (∀ j, j < 16 → σ' 77 j = σ 82 j ∧ σ' 78 j = σ 83 j) → (∀ j, j < 3 → σ' 84 (42 * j) = -9) → Q (some (.int (σ 67 10))) x_g σ' τ) : Ev m_M_pass 43 [.ref 67, .int v1, .int v2, .int (nI 0)] [] x_g σ τ Q := by
  refine ev_lp (M := m_M_pass) (pc := 43) (st := []) (g := x_g) (τ := τ) (Q := Q) 7 (fun i => [.ref 67, .int v1, .int v2, .int (nI i)]) (fun i σ' => Ag [74, 75, 76] σ σ' ∧ ∀ j, j < i → σ' 74 j = σ 79 j ∧ σ' 75 j = σ 80 j ∧ σ' 76 j = σ 81 j) (fun i hi σ1 hI kk => ?_) (fun σ1 hI => ?_) σ ⟨Ag.refl, fun j hj => absurd hj (Nat.not_lt_zero j)⟩
  · obtain ⟨hA, hj⟩ := hI
    refine ev_go 100 [43] ?_
    refine br_f (nI_ge (b := 7) hi (by decide)) ?_
    refine ⟨7, rfl, q_in (by omega) (by decide), ?_⟩
    refine ⟨7, rfl, q_in (by omega) (by decide), ?_⟩
    refine ⟨7, rfl, q_in (by omega) (by decide), ?_⟩
    refine ⟨7, rfl, q_in (by omega) (by decide), ?_⟩
    refine ⟨7, rfl, q_in (by omega) (by decide), ?_⟩
    refine ⟨7, rfl, q_in (by omega) (by decide), ?_⟩
    have key : ∀ σ', σ' = x_row (x_row (x_row σ1 74 (upd (σ1 74) (nI i).toNatClampNeg (σ1 79 (nI i).toNatClampNeg))) 75 (upd (σ1 75) (nI i).toNatClampNeg (σ1 80 (nI i).toNatClampNeg))) 76 (upd (σ1 76) (nI i).toNatClampNeg (σ1 81 (nI i).toNatClampNeg)) → Ev m_M_pass 43 [.ref 67, .int v1, .int v2, .int (nI i + 1)] [] x_g σ' τ Q := by
      intro σ' es
      rw [cl7 (by omega)] at es
      rw [nI_1]
      refine kk σ' ⟨by rw [es]; exact ((hA.row (by decide)).row (by decide)).row (by decide), fun j hj2 => ?_⟩
      rw [es]
      show upd (σ1 74) i (σ1 79 i) j = σ 79 j ∧ upd (σ1 75) i (σ1 80 i) j = σ 80 j ∧ upd (σ1 76) i (σ1 81 i) j = σ 81 j
      rw [hA 79 (by decide), hA 80 (by decide), hA 81 (by decide)]
      simp only [upd]
      by_cases e : j = i
      · rw [if_pos e, if_pos e, if_pos e, e]
        exact ⟨rfl, rfl, rfl⟩
      · rw [if_neg e, if_neg e, if_neg e]
        exact hj j (by omega)
    exact key _ rfl
  obtain ⟨hA, hj⟩ := hI
  refine ev_go 100 [93] ?_
  refine br_t (nI_le (a := 7) (Nat.le_refl _) (by decide)) ?_
  refine ev_lp (M := m_M_pass) (pc := 93) (st := []) (g := x_g) (τ := τ) (Q := Q) 16 (fun i => [.ref 67, .int v1, .int v2, .int (nI i)]) (fun i σ' => Ag [77, 78] σ1 σ' ∧ ∀ j, j < i → σ' 77 j = σ 82 j ∧ σ' 78 j = σ 83 j) (fun i hi σ2 hI kk => ?_) (fun σ2 hI => ?_) σ1 ⟨Ag.refl, fun j hj => absurd hj (Nat.not_lt_zero j)⟩
  · obtain ⟨hA2, hj2⟩ := hI
    refine ev_go 100 [93] ?_
    refine br_f (nI_ge (b := 16) hi (by decide)) ?_
    refine ⟨16, rfl, q_in (by omega) (by decide), ?_⟩
    refine ⟨16, rfl, q_in (by omega) (by decide), ?_⟩
    refine ⟨16, rfl, q_in (by omega) (by decide), ?_⟩
    refine ⟨16, rfl, q_in (by omega) (by decide), ?_⟩
    have key : ∀ σ', σ' = x_row (x_row σ2 77 (upd (σ2 77) (nI i).toNatClampNeg (σ2 82 (nI i).toNatClampNeg))) 78 (upd (σ2 78) (nI i).toNatClampNeg (σ2 83 (nI i).toNatClampNeg)) → Ev m_M_pass 93 [.ref 67, .int v1, .int v2, .int (nI i + 1)] [] x_g σ' τ Q := by
      intro σ' es
      rw [cl7 (by omega)] at es
      rw [nI_1]
      refine kk σ' ⟨by rw [es]; exact (hA2.row (by decide)).row (by decide), fun j hj3 => ?_⟩
      rw [es]
      show upd (σ2 77) i (σ2 82 i) j = σ 82 j ∧ upd (σ2 78) i (σ2 83 i) j = σ 83 j
      rw [hA2 82 (by decide), hA2 83 (by decide), hA 82 (by decide), hA 83 (by decide)]
      simp only [upd]
      by_cases e : j = i
      · rw [if_pos e, if_pos e, e]
        exact ⟨rfl, rfl⟩
      · rw [if_neg e, if_neg e]
        exact hj2 j (by omega)
    exact key _ rfl
  obtain ⟨hA2, hj2⟩ := hI
  refine ev_go 100 [131] ?_
  refine br_t (nI_le (a := 16) (Nat.le_refl _) (by decide)) ?_
  refine ev_lp (M := m_M_pass) (pc := 131) (st := []) (g := x_g) (τ := τ) (Q := Q) 3 (fun i => [.ref 67, .int v1, .int v2, .int (nI i)]) (fun i σ' => Ag [84] σ2 σ' ∧ ∀ j, j < i → σ' 84 (42 * j) = -9) (fun i hi σ3 hI kk => ?_) (fun σ3 hI => ?_) σ2 ⟨Ag.refl, fun j hj => absurd hj (Nat.not_lt_zero j)⟩
  · obtain ⟨hA3, hj3⟩ := hI
    refine ev_go 100 [131] ?_
    refine br_f (nI_ge (b := 3) hi (by decide)) ?_
    refine ⟨126, rfl, by rw [e42]; exact q_in (by omega) (by decide), ?_⟩
    rw [e42, cl7 (by omega)]
    show Ev m_M_pass 131 [.ref 67, .int v1, .int v2, .int (nI i + 1)] [] x_g (x_row σ3 84 (upd (σ3 84) (42 * i) (-9))) τ Q
    rw [nI_1]
    refine kk _ ⟨hA3.row (by decide), fun j hj4 => ?_⟩
    rw [rowput]
    by_cases e : j = i
    · rw [if_pos (by rw [e])]
    · rw [if_neg (by omega)]
      exact hj3 j (by omega)
  obtain ⟨hA3, hj3⟩ := hI
  refine ev_go 100 [] ?_
  refine br_t (nI_le (a := 3) (Nat.le_refl _) (by decide)) ?_
  have h67 : σ3 67 = σ 67 := by rw [hA3 67 (by decide), hA2 67 (by decide), hA 67 (by decide)]
  have := kend σ3 (((hA.mono (by decide)).trans (hA2.mono (by decide))).trans (hA3.mono (by decide))) (fun j h => by
    rw [hA3 74 (by decide), hA3 75 (by decide), hA3 76 (by decide), hA2 74 (by decide), hA2 75 (by decide), hA2 76 (by decide)]
    exact hj j h) (fun j h => by
    rw [hA3 77 (by decide), hA3 78 (by decide)]
    exact hj2 j h) hj3
  rw [← h67] at this
  exact this
set_option maxHeartbeats 2000000 in
theorem pair_pass (r : Int32) : Pair m_S_pass m_M_pass [.int r] := by
  intro σ τ hR
  obtain ⟨P, hC, hM, hV, hK⟩ := hR.2.2.1
  refine ev_go 100 [96] ?_
  refine e_H_isNumber10 σ τ r _ ?_
  rcases q_ix r 4 (by decide) with h0 | ⟨k, hk, rfl⟩
  · refine bn_f (xb0 (fun q => h0.elim q.1 q.2)) ?_
    refine ⟨rfl, ?_⟩
    refine ev_go 100 [] ?_
    refine e_M_textBar_bad σ τ r h0 _ ?_
    refine br_f (by decide) ?_
    exact ⟨rfl, rfl, ⟨_, rfl⟩, hR⟩
  refine bn_t (xb1 (in_text4 hk)) ?_
  refine e_H_isThere10 σ τ _ (q_in hk (by decide)) _ ?_
  rw [cl7 (by omega)]
  have hVV : ∀ i, i < 80 → σ (12 + k) i = σ 73 (80 * k + i) := (hR.2.1.2 k hk).2
  rcases hR.2.1.size hk with ⟨s1, s2⟩ | ⟨n, hn, s1, s2⟩
  · refine bn_f (xb0 (by rw [s1]; decide)) ?_
    refine e_S_refuse σ τ 1 in1 _ ?_
    refine ⟨rfl, ?_⟩
    refine ev_go 100 [] ?_
    refine e_M_textBar_no (c_ref σ 1) τ hk (by rw [Ag.cref 72 (by decide)]; exact s2) _ ?_
    refine br_f (by decide) ?_
    exact ⟨rfl, rfl, ⟨_, rfl⟩, hR.find (f := 1) (by decide)⟩
  refine bn_t (xb1 (by rw [s1]; exact nI_pos (by omega))) ?_
  refine ⟨18, 4, 12 + k, rfl, Or.inl rfl, q_in hk (by decide), by rw [cl7 (by omega)]; exact rf_texts k hk, ?_⟩
  refine ⟨4, rfl, q_in hk (by decide), ?_⟩
  rw [cl7 (by omega)]
  obtain ⟨w, hw, hrd⟩ := e_R_read σ τ hk hn s1
  refine hrd _ (fun σ1 h1 => ?_)
  obtain ⟨hA1, hD1⟩ := h1
  have hdv := rdf_dv (V := σ (12 + k)) (len := n) (f := 81) (p := 0) (D0_dv w)
  have mod : ∀ (σ2 : xS), σ2 72 = σ 72 → σ2 73 = σ 73 → ∀ Q : xQ, (∀ σ3, AgM σ2 σ3 → (∃ p, DM σ3 (rdf (σ (12 + k)) n 81 0 (D0 w)).2 p) → Ev m_M_pass 17 [.ref 67, .int (nI k), .int 0, .null] [.int (aI (rdf (σ (12 + k)) n 81 0 (D0 w)).1)] x_g σ3 τ Q) → Ev m_M_pass 0 (x_loc [.ref 67, .int (nI k)] m_M_pass.2.2.1) [] x_g σ2 τ Q := by
    intro σ2 e72 e73 Q hq
    have e72k : σ2 72 k = nI n := by rw [e72]; exact s2
    refine ev_go 100 [17] ?_
    refine e_M_textBar_ok σ2 τ hk (by rw [e72k]; exact nI_ne9 (by omega)) _ ?_
    refine br_t rfl ?_
    refine e_M_readAll σ2 τ hk e72k hn (V := σ (12 + k)) (fun i hi => by rw [e73]; exact hVV i hi) w _ (fun σ3 h3 => ?_)
    exact hq σ3 h3.1 h3.2
  cases hr : (rdf (σ (12 + k)) n 81 0 (D0 w)).1 with
  | some q =>
    rw [hr] at mod
    have hq := rdf_q hr
    refine br_f (nI_ne9 (by omega)) ?_
    refine ⟨rfl, ?_⟩
    refine mod σ1 (hA1 72 (by decide)) (hA1 73 (by decide)) _ (fun σ3 h3 _ => ?_)
    refine ev_go 100 [] ?_
    refine br_f (nI_ne9 (by omega)) ?_
    exact ⟨rfl, rfl, ⟨_, rfl⟩, (hR.ag hA1 (by decide)).agm h3⟩
  | none =>
    rw [hr] at mod
    generalize (rdf (σ (12 + k)) n 81 0 (D0 w)).2 = D at *
    have hn7 : pn D ≤ 7 := hdv.1
    have hc16 : pc D ≤ 16 := hdv.2.1
    have hV2 : PV (setw D (pw P)) := ⟨hdv.1, hdv.2.1, hV.2.2.1, hdv.2.2.2⟩
    refine br_t rfl ?_
    obtain ⟨σ2, hσ2⟩ : ∃ σ2, σ2 = x_row σ1 24 (upd (σ1 24) 2 (σ1 17 2)) := ⟨_, rfl⟩
    have hA2 : Ag [24] σ1 σ2 := by rw [hσ2]; exact Ag.refl.row (by decide)
    have hP2 : PC σ2 24 (setw D (pw P)) := by
      refine ⟨?_, ?_, ?_, fun i hi => ?_, fun j hj => ?_⟩
      · rw [hσ2]
        exact hD1.1
      · rw [hσ2]
        exact hD1.2.1
      · rw [hσ2]
        show σ1 17 2 = nI (pw P)
        rw [hA1 17 (by decide)]
        exact hC.2.2.1
      · show σ2 25 i = _ ∧ σ2 26 i = _ ∧ σ2 27 i = _
        rw [hA2 25 (by decide), hA2 26 (by decide), hA2 27 (by decide)]
        exact hD1.2.2.2.1 i hi
      · show σ2 28 j = _ ∧ σ2 29 j = _
        rw [hA2 28 (by decide), hA2 29 (by decide)]
        exact hD1.2.2.2.2 j hj
    refine e_P_takeFrom (x_row σ1 24 (upd (σ1 24) 2 (σ1 17 2))) τ (o := 17) (p := 24) (Or.inl ⟨rfl, rfl⟩) _ (fun σ3 h3 => ?_)
    rw [← hσ2] at h3
    have hP3 := h3.pc hP2 hV2
    have goC : ∀ Q : xQ, Q (some (.int (clr (clr (clr σ3 49) 55) 61 17 0))) x_g (clr (clr (clr σ3 49) 55) 61) τ → Ev m_S_pass 96 [.ref 0, .int (nI k), .int 0] [] x_g σ3 τ Q := by
      intro Q hq
      refine ev_go 100 [] ?_
      refine br_f (by decide) ?_
      refine ⟨19, 3, 49, rfl, Or.inr rfl, q_in (i := 0) (by decide) (by decide), rfl, ?_⟩
      refine e_P_clear σ3 τ (Or.inl rfl) _ ?_
      refine br_f (by decide) ?_
      refine ⟨19, 3, 55, rfl, Or.inr rfl, by rw [show (0 : Int32) + 1 = nI 1 from by decide]; exact q_in (by decide) (by decide), by decide, ?_⟩
      refine e_P_clear _ τ (Or.inr (Or.inl rfl)) _ ?_
      refine br_f (by decide) ?_
      refine ⟨19, 3, 61, rfl, Or.inr rfl, by rw [show (0 : Int32) + 1 + 1 = nI 2 from by decide]; exact q_in (by decide) (by decide), by decide, ?_⟩
      refine e_P_clear _ τ (Or.inr (Or.inr rfl)) _ ?_
      refine br_t (by decide) ?_
      exact hq
    refine goC _ ?_
    obtain ⟨σ4, hσ4⟩ : ∃ σ4, σ4 = clr (clr (clr σ3 49) 55) 61 := ⟨_, rfl⟩
    rw [← hσ4]
    have hA4 : Ag [49, 55, 61] σ3 σ4 := by
      rw [hσ4]
      exact ((Ag.clr.mono (by decide)).trans (Ag.clr.mono (by decide))).trans (Ag.clr.mono (by decide))
    have z1 : σ4 49 0 = 0 := by
      rw [hσ4, Ag.clr (o := 61) 49 (by decide), Ag.clr (o := 55) 49 (by decide)]
      exact clr_0
    have z2 : σ4 55 0 = 0 := by
      rw [hσ4, Ag.clr (o := 61) 55 (by decide)]
      exact clr_0
    have z3 : σ4 61 0 = 0 := by
      rw [hσ4]
      exact clr_0
    have hcls : ∀ q, (q < 17 ∨ 22 < q) → (q < 24 ∨ 29 < q) → q ≠ 49 → q ≠ 55 → q ≠ 61 → σ4 q = σ q := fun q a b c d e => by
      rw [hA4 q (by simp [c, d, e]), h3.rel (o := 17) (by omega), hA2 q (by simp; omega), hA1 q (by simp; omega)]
    have hP4 : PC σ4 17 (setw D (pw P)) := hP3.ag hA4 (by decide)
    refine ⟨rfl, ?_⟩
    refine mod σ4 (hcls 72 (by omega) (by omega) (by decide) (by decide) (by decide)) (hcls 73 (by omega) (by omega) (by decide) (by decide) (by decide)) _ (fun σ5 h5 hdm => ?_)
    obtain ⟨p5, hdm⟩ := hdm
    refine ev_go 100 [43] ?_
    refine br_t rfl ?_
    refine e_M_pass_go (m_take σ5) τ (fun σ6 hA6 g1 g2 g3 => ?_)
    have e10 : m_take σ5 67 10 = nI (pn D) := hdm.2.1
    have e14 : m_take σ5 67 14 = nI (pc D) := hdm.2.2.1
    have hA5 : Ag [67] σ5 (m_take σ5) := (Ag.refl.row (by decide)).row (by decide)
    have oth : ∀ j, j ≠ 10 → j ≠ 14 → m_take σ5 67 j = σ5 67 j := fun j a b => by
      show upd (upd (σ5 67) 10 (σ5 67 19)) 14 (σ5 67 20) j = σ5 67 j
      simp only [upd]
      rw [if_neg b, if_neg a]
    have e67 : ∀ j, j ≠ 10 → j ≠ 14 → j ≠ 18 → j ≠ 19 → j ≠ 20 → σ6 67 j = σ 67 j := fun j a b c d e => by
      rw [hA6 67 (by decide), oth j a b, h5.2 j c d e, hcls 67 (by omega) (by omega) (by decide) (by decide) (by decide)]
    have h46 : ∀ q, q ≠ 67 → (q < 74 ∨ 84 < q) → σ6 q = σ4 q := fun q a b => by
      rw [hA6 q (by simp; omega), hA5 q (by simp; omega), h5.1 q (by simp; omega)]
    refine ⟨rfl, ?_, ⟨_, rfl⟩, ?_⟩
    · rw [e10, hP4.1]
      rfl
    refine hR.pass (P := setw D (pw P)) (hP4.congr (fun q q1 q2 => h46 q (by omega) (by omega))) ?_ hV2 ?_ (fun q q1 => ?_) (fun q q1 q2 => ?_) (fun q q1 q2 => ?_) (fun j hj => e67 j (by omega) (by omega) (by omega) (by omega) (by omega))
    · refine ⟨?_, ?_, ?_, fun i hi => ?_, fun j hj => ?_⟩
      · rw [hA6 67 (by decide), e10]
        rfl
      · rw [hA6 67 (by decide), e14]
        rfl
      · rw [e67 17 (by decide) (by decide) (by decide) (by decide) (by decide)]
        exact hM.2.2.1
      · have hi : i < pn D := hi
        obtain ⟨a, b, c⟩ := g1 i (by omega)
        rw [a, b, c]
        exact ⟨hdm.2.2.2.1 i hi, hdm.2.2.2.2.1 i hi, hdm.2.2.2.2.2.1 i hi⟩
      · have hj : j < pc D := hj
        obtain ⟨a, b⟩ := g2 j (by omega)
        rw [a, b]
        exact ⟨hdm.2.2.2.2.2.2.1 j hj, hdm.2.2.2.2.2.2.2 j hj⟩
    · intro j hj
      refine Or.inl ⟨?_, g3 j hj⟩
      rw [h46 (49 + 6 * j) (by omega) (by omega)]
      rcases k3 hj with rfl | rfl | rfl
      · exact z1
      · exact z2
      · exact z3
    · rw [h46 q (by omega) (by omega)]
      exact hcls q (by omega) (by omega) (by omega) (by omega) (by omega)
    · rw [h46 q (by omega) (by omega)]
      exact hcls q (by omega) (by omega) (by omega) (by omega) (by omega)
    · rw [h46 q (by omega) (by omega)]
      exact hcls q (by omega) (by omega) (by omega) (by omega) (by omega)
