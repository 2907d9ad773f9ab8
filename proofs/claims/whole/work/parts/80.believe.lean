theorem pair_believe (r : Int32) : Pair m_S_believe m_M_believe [.int r] := by
  intro σ τ hR
  obtain ⟨P, hC, hM, hV, hK⟩ := hR.2.2.1
  have h7 := hV.1
  have hp := Nat.one_le_two_pow (n := pn P)
  refine ev_go 100 [49] ?_
  refine e_H_isNumber1 σ τ r _ ?_
  rcases q_ix r 6 (by decide) with h0 | ⟨k, hk, rfl⟩
  · refine bn_f (xb0 (fun q => h0.elim q.1 q.2)) ?_
    refine ⟨rfl, ?_⟩
    refine ev_go 100 [] ?_
    have : Rn m_M_claimBar [.ref 67, .int r] σ τ (some (.int (-1))) σ τ := by
      intro Q h
      refine ev_go 100 [] ?_
      refine e_M_isRow σ τ r _ ?_
      refine bn_f (xb0 (fun q => h0.elim q.1 (fun z => q.2 ((q_5 r).mpr z)))) ?_
      exact h
    refine this _ ?_
    refine br_f (by decide) ?_
    exact ⟨rfl, rfl, ⟨_, rfl⟩, hR⟩
  refine bn_t (xb1 (in_row6 hk)) ?_
  have hVV : ∀ i, i < 40 → σ (3 + k) i = σ 70 (40 * k + i) := (hR.1.2 k hk).2
  rcases claims_both hR hC hM hV hk with ⟨f, f0, f6, hS, hB⟩ | ⟨n, n8, s1, s2, hg, hr, hS, hB⟩
  · refine hS _ (fun σ1 h1 => ?_)
    refine br_f (nI_ne0 f0 (by omega)) ?_
    refine e_S_refuse σ1 τ (nI f) (q_in f6 (by decide)) _ ?_
    refine ⟨rfl, ?_⟩
    refine ev_go 100 [] ?_
    refine hB σ1 h1 _ (fun σ2 h2 => ?_)
    obtain ⟨σ3, h3, rfl⟩ := h2
    refine br_f (by decide) ?_
    exact ⟨rfl, rfl, ⟨_, rfl⟩, hR.fnd h1 (by decide) f6 h3 (by decide)⟩
  refine hS _ (fun σ1 h1 => ?_)
  refine br_t rfl ?_
  obtain ⟨hA1, hG1⟩ := h1
  have b0 := wy_b31 (e := edP P) (n := pn P) (S := 0) h7 (by omega)
  have w0 := wy_pos hr (lf (pn P) 0) 0 (by omega) (Nat.le_refl _)
  have b1 := wy_b31 (e := ces (σ (3 + k)) (edP P) n) (n := pn P) (S := 0) h7 (by omega)
  obtain ⟨K, k1, k2, k3⟩ := es_end (p := (wy (ces (σ (3 + k)) (edP P) n) (pn P) 0, wy (edP P) (pn P) 0)) b0
  refine e_G_countOnward σ1 τ h7 hG1.1 _ (fun σ2 h2 => ?_)
  refine ⟨128, rfl, q_in (i := 0) (by decide) (by decide), ?_⟩
  rw [show σ2 34 (0 : Int32).toNatClampNeg = nI (wy (edP P) (pn P) 0) from h2.2 0 (by omega)]
  have hA2 : Ag [31, 32, 33, 34] σ σ2 := (hA1.mono (by decide)).trans (h2.1.mono (by decide))
  have hG2 := hG1.1.ag h2.1 (by decide) (by decide)
  refine ev_lp (M := m_S_believe) (pc := 49) (st := []) (g := x_g) (τ := τ) n (fun i => [.ref 0, .int (nI k), .int 0, .int (nI (wy (edP P) (pn P) 0)), .int (nI i)]) (fun i σ' => Ag [32] σ2 σ' ∧ Ar σ' 32 7 (fun j => bs (ces (σ (3 + k)) (edP P) i j) (pn P))) (fun i hi σ3 hI kk => ?_) (fun σ3 hI => ?_) σ2 ⟨Ag.refl, hG2.2⟩
  · obtain ⟨hA3, hB3⟩ := hI
    obtain ⟨c0, c1, c2, c3⟩ := hg i hi
    have er : σ3 (3 + k) = σ (3 + k) := by rw [hA3 (3 + k) (by simp; omega), hA2 (3 + k) (by simp; omega)]
    refine ev_go 100 [49] ?_
    refine ⟨6, rfl, q_in hk (by decide), ?_⟩
    rw [cl7 (by omega), hA3 9 (by decide), hA2 9 (by decide), s1]
    refine br_f (nI_ge hi (by omega)) ?_
    refine e_S_behindByClaim σ3 τ hk (by omega) (by rw [er]; exact c0) _ ?_
    rw [er]
    refine ⟨7, rfl, q_in (by omega) (by decide), ?_⟩
    refine e_S_aheadByClaim σ3 τ hk (by omega) (by rw [er]; exact c0) _ ?_
    rw [er]
    refine ⟨7, rfl, q_in (by omega) (by decide), ?_⟩
    rw [cl7 (by omega), hB3 _ (by omega), q_shl1 (by omega), q_or]
    show Ev m_S_believe 49 [.ref 0, .int (nI k), .int 0, .int (nI (wy (edP P) (pn P) 0)), .int (nI i + 1)] [] x_g _ τ _
    rw [nI_1]
    exact kk _ ⟨hA3.row (by decide), hB3.orb c1⟩
  obtain ⟨hA3, hB3⟩ := hI
  have hA3' : Ag [31, 32, 33, 34] σ σ3 := hA2.trans (hA3.mono (by decide))
  refine ev_go 100 [] ?_
  refine ⟨6, rfl, q_in hk (by decide), ?_⟩
  rw [cl7 (by omega), hA3' 9 (by decide), s1]
  refine br_t (nI_le (Nat.le_refl _) (by omega)) ?_
  refine e_G_countOnward σ3 τ h7 (e := ces (σ (3 + k)) (edP P) n) ⟨hG2.1.ag hA3 (by decide), hB3⟩ _ (fun σ4 h4 => ?_)
  refine ⟨128, rfl, q_in (i := 0) (by decide) (by decide), ?_⟩
  refine e_S_tellFraction σ4 τ b1 b0 w0 k1 k2 k3 (by rw [show σ4 34 (0 : Int32).toNatClampNeg = nI (wy (ces (σ (3 + k)) (edP P) n) (pn P) 0) from h4.2 0 (by omega), nI_l b1]) (nI_l b0) _ ?_
  refine ⟨rfl, ?_⟩
  have hA4 : Ag [31, 32, 33, 34] σ σ4 := hA3'.trans (h4.1.mono (by decide))
  have hM4 := hM.ag hA4 (by decide)
  refine ev_go 100 [20] ?_
  refine hB σ4 _ hM4 (hA4 69 (by decide)) (hA4 70 (by decide)) _ (fun σ5 h5 => ?_)
  have hM5 := hM4.ag h5.1 (by decide)
  refine br_t rfl ?_
  refine e_M_countOrders σ5 _ h7 hM5.1 h5.2.1 _ (fun σ6 h6 => ?_)
  have hA6 : Ag [85, 86, 87] σ4 σ6 := (h5.1.mono (by decide)).trans (h6.1.mono (by decide))
  have hM6 := hM4.ag hA6 (by decide)
  refine ev_lp (M := m_M_believe) (pc := 20) (st := []) (g := x_g) n (fun i => [.ref 67, .int (nI k), .int 0, .int (nI (wy (edP P) (pn P) 0)), .int (nI i)]) (fun i σ' => Ag [85] σ6 σ' ∧ Mr σ' (pn P) (ces (σ (3 + k)) (edP P) i)) (fun i hi σ7 hI kk => ?_) (fun σ7 hI => ?_) σ6 ⟨Ag.refl, h5.2.1.ag h6.1 (by decide)⟩
  · obtain ⟨hA7, hB7⟩ := hI
    refine ev_go 100 [20] ?_
    refine ⟨6, rfl, q_in hk (by decide), ?_⟩
    rw [cl7 (by omega), hA7 69 (by decide), hA6 69 (by decide), hA4 69 (by decide), s2]
    refine br_f (nI_ge hi (by omega)) ?_
    refine e_M_claims σ7 _ h7 hk (by omega) (V := σ (3 + k)) (fun i hi => by rw [hA7 70 (by decide), hA6 70 (by decide), hA4 70 (by decide)]; exact hVV i hi) (hg i hi) hB7 _ (fun σ8 h8 => ?_)
    show Ev m_M_believe 20 [.ref 67, .int (nI k), .int 0, .int (nI (wy (edP P) (pn P) 0)), .int (nI i + 1)] [] x_g σ8 _ _
    rw [nI_1]
    exact kk σ8 ⟨hA7.trans h8.1, h8.2⟩
  obtain ⟨hA7, hB7⟩ := hI
  have hM7 := hM6.ag hA7 (by decide)
  refine ev_go 100 [] ?_
  refine ⟨6, rfl, q_in hk (by decide), ?_⟩
  rw [cl7 (by omega), hA7 69 (by decide), hA6 69 (by decide), hA4 69 (by decide), s2]
  refine br_t (nI_le (Nat.le_refl _) (by omega)) ?_
  refine e_M_countOrders σ7 _ h7 hM7.1 hB7 _ (fun σ8 h8 => ?_)
  refine e_M_parts σ8 _ b1 b0 w0 k2 k3 (nI_l b1) (nI_l b0) _ ?_
  exact ⟨rfl, rfl, ⟨_, rfl⟩, ((((hR.ag hA4 (by decide)).ag hA6 (by decide)).ag hA7 (by decide)).ag h8.1 (by decide)).frac _ _⟩
