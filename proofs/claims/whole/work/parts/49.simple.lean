/-! CALLS THAT SHOW OR CHANGE ONE THING -/
theorem pair_asked : Pair m_S_asked m_M_asked [] := by
  intro σ τ hR
  refine ev_go 100 [] ?_
  refine ⟨rfl, ?_⟩
  refine ev_go 100 [] ?_
  exact ⟨rfl, by rw [hR.2.2.2.1], ⟨_, rfl⟩, hR⟩
theorem pair_finding : Pair m_S_finding m_M_finding [] := by
  intro σ τ hR
  refine ev_go 100 [] ?_
  refine ⟨rfl, ?_⟩
  refine ev_go 100 [] ?_
  exact ⟨rfl, by rw [hR.2.2.2.2.1], ⟨_, rfl⟩, hR⟩
theorem pair_upper : Pair m_S_upper m_M_upper [] := by
  intro σ τ hR
  refine ev_go 100 [] ?_
  refine ⟨rfl, ?_⟩
  refine ev_go 100 [] ?_
  exact ⟨rfl, by rw [hR.2.2.2.2.2.2.1], ⟨_, rfl⟩, hR⟩
theorem pair_lower : Pair m_S_lower m_M_lower [] := by
  intro σ τ hR
  refine ev_go 100 [] ?_
  refine ⟨rfl, ?_⟩
  refine ev_go 100 [] ?_
  exact ⟨rfl, by rw [hR.2.2.2.2.2.2.2], ⟨_, rfl⟩, hR⟩
theorem q_lt01 {f : Int32} (h : f < 0) : f < 1 := by
  have e1 : (0 : Int32).toInt = 0 := by decide
  have e2 : (1 : Int32).toInt = 1 := by decide
  rw [Int32.lt_iff_toInt_lt] at h ⊢
  omega
theorem pair_findings (f : Int32) : Pair m_S_findings m_M_findings [.int f] := by
  intro σ τ hR
  refine ev_go 100 [] ?_
  have bad : (f < 1 ∨ 5 < f) → Ev m_M_findings 0 (x_loc [.ref 67, .int f] m_M_findings.2.2.1) [] x_g σ τ (fun r2 g2 σ2 τ2 => g2 = x_g ∧ some (Value.int (-1)) = r2 ∧ (∃ v, some (Value.int (-1)) = some v) ∧ Rel σ2 τ2) := by
    intro h0
    refine ev_go 100 [] ?_
    refine e_M_in σ τ f 1 5 _ ?_
    refine br_t (xb0 (fun q => h0.elim q.1 q.2)) ?_
    exact ⟨rfl, rfl, ⟨_, rfl⟩, hR⟩
  refine And.intro (fun h1 => ?_) (fun h1 => And.intro (fun h2 => ?_) (fun h2 => ?_))
  · exact ⟨rfl, bad (Or.inl h1)⟩
  · have h3 : ¬ (5 : Int32) < f := Int32.not_lt.mpr h2
    have h4 : ∃ j, j < 6 ∧ f = nI j := by
      rcases q_ix f 6 (by decide) with (h | h) | h
      · exact absurd (q_lt01 h) h1
      · exact absurd ((q_5 f).mpr h) h3
      · exact h
    obtain ⟨j, hj, rfl⟩ := h4
    refine ⟨6, rfl, q_in hj (by decide), ?_⟩
    refine ⟨rfl, ?_⟩
    refine ev_go 100 [] ?_
    refine e_M_in σ τ _ 1 5 _ ?_
    refine br_f (xb1 ⟨h1, h3⟩) ?_
    refine ⟨6, rfl, q_in hj (by decide), ?_⟩
    refine ⟨rfl, ?_, ⟨_, rfl⟩, hR⟩
    rw [cl7 (by omega), hR.2.2.2.2.2.1 j hj]
  · exact ⟨rfl, bad (Or.inr (Int32.not_le.mp h2))⟩
/-- the pass as it is now -/
theorem Rel.pass {σ σ' : xS} {τ : xL} {P : xP} (h : Rel σ τ) (h1 : PC σ' 17 P) (h2 : PM σ' P) (h3 : PV P) (h4 : RelK σ' P) (a1 : ∀ q, q ≤ 16 → σ' q = σ q) (a2 : ∀ q, 48 ≤ q → q ≤ 48 → σ' q = σ q) (a3 : ∀ q, 68 ≤ q → q ≤ 73 → σ' q = σ q) (a4 : ∀ j, j ≤ 2 → σ' 67 j = σ 67 j) : Rel σ' τ := by
  obtain ⟨b1, b2, -, b4⟩ := h
  refine ⟨b1.congr (by rw [a1 1 (by omega)]) (fun q q1 q2 => a1 q (by omega)) (a3 69 (by omega) (by omega)) (a3 70 (by omega) (by omega)), b2.congr (by rw [a1 10 (by omega)]) (fun q q1 q2 => a1 q (by omega)) (a3 72 (by omega) (by omega)) (a3 73 (by omega) (by omega)), ⟨P, h1, h2, h3, h4⟩, ?_⟩
  unfold RelA
  rw [a1 0 (by omega), a4 2 (by omega), a4 0 (by omega), a2 48 (by omega) (by omega), a3 68 (by omega) (by omega)]
  exact b4
theorem pair_wind (v : Int32) : Pair m_S_wind m_M_wind [.int v] := by
  intro σ τ hR
  obtain ⟨P, hC, hM, hV, hK⟩ := hR.2.2.1
  refine ev_go 100 [] ?_
  have bad : (v < 0 ∨ 1 < v) → Ev m_M_wind 0 (x_loc [.ref 67, .int v] m_M_wind.2.2.1) [] x_g σ τ (fun r2 g2 σ2 τ2 => g2 = x_g ∧ some (Value.int (-1)) = r2 ∧ (∃ v, some (Value.int (-1)) = some v) ∧ Rel σ2 τ2) := by
    intro h0
    refine ev_go 100 [] ?_
    refine e_M_in σ τ v 0 1 _ ?_
    refine bn_f (xb0 (fun q => h0.elim q.1 q.2)) ?_
    exact ⟨rfl, rfl, ⟨_, rfl⟩, hR⟩
  refine And.intro (fun h1 => ?_) (fun h1 => And.intro (fun h2 => ?_) (fun h2 => ?_))
  · exact ⟨rfl, bad (Or.inl h1)⟩
  · obtain ⟨w, hw, rfl⟩ := nI_of2 (M := 1) (n := 1) (by decide) h1 h2
    refine ⟨rfl, ?_⟩
    refine ev_go 100 [] ?_
    refine e_M_in _ τ _ 0 1 _ ?_
    refine bn_t (xb1 ⟨h1, Int32.not_lt.mpr h2⟩) ?_
    refine ⟨rfl, ?_, ⟨_, rfl⟩, ?_⟩
    · show some (Value.int (σ 17 2)) = some (Value.int (σ 67 17))
      rw [hC.2.2.1, hM.2.2.1]
    · show Rel (x_row (x_row σ 17 (upd (σ 17) 2 (nI w))) 67 (upd (σ 67) 17 (nI w))) τ
      have hz : ∀ q, q ≠ 17 → q ≠ 67 → x_row (x_row σ 17 (upd (σ 17) 2 (nI w))) 67 (upd (σ 67) 17 (nI w)) q = σ q := fun q q1 q2 => by
        rw [x_row_ne q2, x_row_ne q1]
      have h17 : x_row (x_row σ 17 (upd (σ 17) 2 (nI w))) 67 (upd (σ 67) 17 (nI w)) 17 = upd (σ 17) 2 (nI w) := rfl
      have h67 : x_row (x_row σ 17 (upd (σ 17) 2 (nI w))) 67 (upd (σ 67) 17 (nI w)) 67 = upd (σ 67) 17 (nI w) := rfl
      refine hR.pass (P := (pn P, pc P, w, P.2.2.2)) ⟨?_, ?_, ?_, ?_, ?_⟩ ⟨?_, ?_, ?_, ?_, ?_⟩ ⟨hV.1, hV.2.1, hw, hV.2.2.2⟩ (hK.congr (fun q q1 q2 => hz q (by omega) (by omega)) (hz 84 (by omega) (by omega))) (fun q q1 => hz q (by omega) (by omega)) (fun q q1 q2 => hz q (by omega) (by omega)) (fun q q1 q2 => hz q (by omega) (by omega)) (fun j hj => ?_)
      · rw [h17]; exact hC.1
      · rw [h17]; exact hC.2.1
      · rw [h17]; rfl
      · intro i hi
        rw [hz 18 (by omega) (by omega), hz 19 (by omega) (by omega), hz 20 (by omega) (by omega)]
        exact hC.2.2.2.1 i hi
      · intro i hi
        rw [hz 21 (by omega) (by omega), hz 22 (by omega) (by omega)]
        exact hC.2.2.2.2 i hi
      · rw [h67]; exact hM.1
      · rw [h67]; exact hM.2.1
      · rw [h67]; rfl
      · intro i hi
        rw [hz 74 (by omega) (by omega), hz 75 (by omega) (by omega), hz 76 (by omega) (by omega)]
        exact hM.2.2.2.1 i hi
      · intro i hi
        rw [hz 77 (by omega) (by omega), hz 78 (by omega) (by omega)]
        exact hM.2.2.2.2 i hi
      · rw [h67]
        simp only [upd]
        rw [if_neg (by omega)]
  · exact ⟨rfl, bad (Or.inr (Int32.not_le.mp h2))⟩
theorem pair_fill (i v : Int32) : Pair m_S_fill m_M_fill [.int i, .int v] := by
  intro σ τ hR
  obtain ⟨P, hC, hM, hV, hK⟩ := hR.2.2.1
  have h7 := hV.1
  refine ev_go 100 [] ?_
  refine e_P_isTrack σ τ i _ ?_
  have bad : ¬ ((¬ i < 0 ∧ ¬ nI (pn P) ≤ i) ∧ ¬ v < 0 ∧ ¬ 10 < v) → Ev m_M_fill 0 (x_loc [.ref 67, .int i, .int v] m_M_fill.2.2.1) [] x_g σ τ (fun r2 g2 σ2 τ2 => g2 = x_g ∧ some (Value.int (-1)) = r2 ∧ (∃ v, some (Value.int (-1)) = some v) ∧ Rel σ2 τ2) := by
    intro h0
    refine ev_go 100 [] ?_
    refine e_M_isTrack σ τ hM hV i _ ?_
    by_cases h1 : ¬ i < 0 ∧ ¬ nI (pn P) ≤ i
    · refine br_f (xb1 h1) ?_
      refine e_M_in σ τ v 0 10 _ ?_
      refine bn_f (xb0 (fun q => h0 ⟨h1, q⟩)) ?_
      exact ⟨rfl, rfl, ⟨_, rfl⟩, hR⟩
    · refine br_t (xb0 h1) ?_
      exact ⟨rfl, rfl, ⟨_, rfl⟩, hR⟩
  rw [hC.1]
  by_cases h1 : ¬ i < 0 ∧ ¬ nI (pn P) ≤ i
  · refine br_f (xb1 h1) ?_
    refine And.intro (fun h2 => ?_) (fun h2 => And.intro (fun h3 => ?_) (fun h3 => ?_))
    · exact ⟨rfl, bad (fun q => q.2.1 h2)⟩
    · obtain ⟨k, hk, rfl⟩ := (q_trk h7 i).mp h1
      obtain ⟨w, hw, rfl⟩ := nI_of2 (M := 10) (n := 10) (by decide) h2 h3
      have ek : (nI k).toNatClampNeg = k := cl7 (by omega)
      refine ⟨7, rfl, q_in (by omega) (by decide), ?_⟩
      refine ⟨7, rfl, q_in (by omega) (by decide), ?_⟩
      refine ⟨rfl, ?_⟩
      have hx : ∀ q, q ≠ 20 → x_row σ 20 (upd (σ 20) (nI k).toNatClampNeg (nI w)) q = σ q := fun q q1 => x_row_ne q1
      have hM' : PM (x_row σ 20 (upd (σ 20) (nI k).toNatClampNeg (nI w))) P := hM.congr (by rw [hx 67 (by omega)]) (by rw [hx 67 (by omega)]) (by rw [hx 67 (by omega)]) (fun q q1 q2 => hx q (by omega))
      refine ev_go 100 [] ?_
      refine e_M_isTrack _ τ hM' hV _ _ ?_
      refine br_f (xb1 h1) ?_
      refine e_M_in _ τ _ 0 10 _ ?_
      refine bn_t (xb1 ⟨h2, Int32.not_lt.mpr h3⟩) ?_
      refine ⟨7, rfl, q_in (by omega) (by decide), ?_⟩
      refine ⟨7, rfl, q_in (by omega) (by decide), ?_⟩
      refine ⟨rfl, ?_, ⟨_, rfl⟩, ?_⟩
      · show some (Value.int (σ 20 (nI k).toNatClampNeg)) = some (Value.int (σ 76 (nI k).toNatClampNeg))
        rw [ek, (hC.2.2.2.1 k hk).2.2, (hM.2.2.2.1 k hk).2.2]
      · show Rel (x_row (x_row σ 20 (upd (σ 20) (nI k).toNatClampNeg (nI w))) 76 (upd (σ 76) (nI k).toNatClampNeg (nI w))) τ
        rw [ek]
        have hz : ∀ q, q ≠ 20 → q ≠ 76 → x_row (x_row σ 20 (upd (σ 20) k (nI w))) 76 (upd (σ 76) k (nI w)) q = σ q := fun q q1 q2 => by
          rw [x_row_ne q2, x_row_ne q1]
        have h20 : x_row (x_row σ 20 (upd (σ 20) k (nI w))) 76 (upd (σ 76) k (nI w)) 20 = upd (σ 20) k (nI w) := rfl
        have h76 : x_row (x_row σ 20 (upd (σ 20) k (nI w))) 76 (upd (σ 76) k (nI w)) 76 = upd (σ 76) k (nI w) := rfl
        refine hR.pass (P := (pn P, pc P, pw P, pk P, pz P, nup (pf P) k w, po P, pu P)) ⟨?_, ?_, ?_, ?_, ?_⟩ ⟨?_, ?_, ?_, ?_, ?_⟩ ⟨hV.1, hV.2.1, hV.2.2.1, fun i hi => ?_, hV.2.2.2.2⟩ (hK.congr (fun q q1 q2 => hz q (by omega) (by omega)) (hz 84 (by omega) (by omega))) (fun q q1 => hz q (by omega) (by omega)) (fun q q1 q2 => hz q (by omega) (by omega)) (fun q q1 q2 => hz q (by omega) (by omega)) (fun j hj => by rw [hz 67 (by omega) (by omega)])
        · rw [hz 17 (by omega) (by omega)]; exact hC.1
        · rw [hz 17 (by omega) (by omega)]; exact hC.2.1
        · rw [hz 17 (by omega) (by omega)]; exact hC.2.2.1
        · intro i hi
          rw [hz 18 (by omega) (by omega), hz 19 (by omega) (by omega), h20]
          refine ⟨(hC.2.2.2.1 i hi).1, (hC.2.2.2.1 i hi).2.1, ?_⟩
          show upd (σ 20) k (nI w) i = nI (nup (pf P) k w i)
          by_cases e : i = k
          · simp [upd, nup, e]
          · simp only [upd, nup, e, if_false]
            exact (hC.2.2.2.1 i hi).2.2
        · intro i hi
          rw [hz 21 (by omega) (by omega), hz 22 (by omega) (by omega)]
          exact hC.2.2.2.2 i hi
        · rw [hz 67 (by omega) (by omega)]; exact hM.1
        · rw [hz 67 (by omega) (by omega)]; exact hM.2.1
        · rw [hz 67 (by omega) (by omega)]; exact hM.2.2.1
        · intro i hi
          rw [hz 74 (by omega) (by omega), hz 75 (by omega) (by omega), h76]
          refine ⟨(hM.2.2.2.1 i hi).1, (hM.2.2.2.1 i hi).2.1, ?_⟩
          show upd (σ 76) k (nI w) i = nI (nup (pf P) k w i)
          by_cases e : i = k
          · simp [upd, nup, e]
          · simp only [upd, nup, e, if_false]
            exact (hM.2.2.2.1 i hi).2.2
        · intro i hi
          rw [hz 77 (by omega) (by omega), hz 78 (by omega) (by omega)]
          exact hM.2.2.2.2 i hi
        · refine ⟨(hV.2.2.2.1 i hi).1, (hV.2.2.2.1 i hi).2.1, ?_⟩
          show nup (pf P) k w i ≤ 10
          by_cases e : i = k
          · simp [nup, e, hw]
          · simp only [nup, e, if_false]
            exact (hV.2.2.2.1 i hi).2.2
    · exact ⟨rfl, bad (fun q => q.2.2 (Int32.not_le.mp h3))⟩
  · refine br_t (xb0 h1) ?_
    exact ⟨rfl, bad (fun q => h1 q.1)⟩
theorem pair_snow (n : Int32) : Pair m_S_snow m_M_snow [.int n] := by
  intro σ τ hR
  obtain ⟨P, hC, hM, hV, hK⟩ := hR.2.2.1
  have h16 := hV.2.1
  refine ev_go 100 [] ?_
  have bad : (n < 0 ∨ nI (pc P) < n) → Ev m_M_snow 0 (x_loc [.ref 67, .int n] m_M_snow.2.2.1) [] x_g σ τ (fun r2 g2 σ2 τ2 => g2 = x_g ∧ some (Value.int (-1)) = r2 ∧ (∃ v, some (Value.int (-1)) = some v) ∧ Rel σ2 τ2) := by
    intro h0
    refine ev_go 100 [] ?_
    refine e_M_in σ τ n 0 _ _ ?_
    rw [hM.2.1]
    refine bn_f (xb0 (fun q => h0.elim q.1 q.2)) ?_
    exact ⟨rfl, rfl, ⟨_, rfl⟩, hR⟩
  refine And.intro (fun h1 => ?_) (fun h1 => And.intro (fun h2 => ?_) (fun h2 => ?_))
  · exact ⟨rfl, bad (Or.inl h1)⟩
  · rw [hC.2.1] at h2
    obtain ⟨w, hw, rfl⟩ := nI_of2 (M := nI (pc P)) (n := pc P) (nI_toInt (by omega)) h1 h2
    refine ⟨rfl, ?_⟩
    refine ev_go 100 [] ?_
    refine e_M_in _ τ _ 0 _ _ ?_
    refine bn_t (xb1 ⟨h1, ?_⟩) ?_
    · show ¬ σ 67 14 < nI w
      rw [hM.2.1]
      exact Int32.not_lt.mpr h2
    refine ⟨rfl, ?_, ⟨_, rfl⟩, ?_⟩
    · show some (Value.int (σ 17 1 - nI w)) = some (Value.int (σ 67 14 - nI w))
      rw [hC.2.1, hM.2.1]
    · show Rel (x_row (x_row σ 17 (upd (σ 17) 1 (nI w))) 67 (upd (σ 67) 14 (nI w))) τ
      have hz : ∀ q, q ≠ 17 → q ≠ 67 → x_row (x_row σ 17 (upd (σ 17) 1 (nI w))) 67 (upd (σ 67) 14 (nI w)) q = σ q := fun q q1 q2 => by
        rw [x_row_ne q2, x_row_ne q1]
      have h17 : x_row (x_row σ 17 (upd (σ 17) 1 (nI w))) 67 (upd (σ 67) 14 (nI w)) 17 = upd (σ 17) 1 (nI w) := rfl
      have h67 : x_row (x_row σ 17 (upd (σ 17) 1 (nI w))) 67 (upd (σ 67) 14 (nI w)) 67 = upd (σ 67) 14 (nI w) := rfl
      refine hR.pass (P := (pn P, w, P.2.2)) ⟨?_, ?_, ?_, ?_, ?_⟩ ⟨?_, ?_, ?_, ?_, ?_⟩ ⟨hV.1, by show w ≤ 16; omega, hV.2.2.1, hV.2.2.2.1, fun k hk => hV.2.2.2.2 k (Nat.lt_of_lt_of_le hk hw)⟩ (hK.congr (fun q q1 q2 => hz q (by omega) (by omega)) (hz 84 (by omega) (by omega))) (fun q q1 => hz q (by omega) (by omega)) (fun q q1 q2 => hz q (by omega) (by omega)) (fun q q1 q2 => hz q (by omega) (by omega)) (fun j hj => ?_)
      · rw [h17]; exact hC.1
      · rw [h17]; rfl
      · rw [h17]; exact hC.2.2.1
      · intro i hi
        rw [hz 18 (by omega) (by omega), hz 19 (by omega) (by omega), hz 20 (by omega) (by omega)]
        exact hC.2.2.2.1 i hi
      · intro i hi
        rw [hz 21 (by omega) (by omega), hz 22 (by omega) (by omega)]
        exact hC.2.2.2.2 i (Nat.lt_of_lt_of_le hi hw)
      · rw [h67]; exact hM.1
      · rw [h67]; rfl
      · rw [h67]; exact hM.2.2.1
      · intro i hi
        rw [hz 74 (by omega) (by omega), hz 75 (by omega) (by omega), hz 76 (by omega) (by omega)]
        exact hM.2.2.2.1 i hi
      · intro i hi
        rw [hz 77 (by omega) (by omega), hz 78 (by omega) (by omega)]
        exact hM.2.2.2.2 i (Nat.lt_of_lt_of_le hi hw)
      · rw [h67]
        simp only [upd]
        rw [if_neg (by omega)]
  · rw [hC.2.1] at h2
    exact ⟨rfl, bad (Or.inr (Int32.not_le.mp h2))⟩
