theorem pair_hold (r : Int32) : Pair m_S_hold m_M_hold [.int r] := by
  intro σ τ hR
  obtain ⟨P, hC, hM, hV, hK⟩ := hR.2.2.1
  have h7 := hV.1
  refine ev_go 100 [49] ?_
  refine e_H_isNumber1 σ τ r _ ?_
  rcases q_ix r 6 (by decide) with h0 | ⟨k, hk, rfl⟩
  · refine bn_f (xb0 (fun q => h0.elim q.1 q.2)) ?_
    refine ⟨rfl, ?_⟩
    refine ev_go 100 [] ?_
    have : Rn m_M_claimBar [.ref 67, .int r] σ τ (some (.int (-1))) σ τ := by
      intro Q h
      refine ev_go 100 [] ?_
      refine e_M_isRow σ τ r _ ?_
      refine bn_f (xb0 (fun q => h0.elim q.1 (fun z => q.2 ((q_5 r).mpr z)))) ?_
      exact h
    refine this _ ?_
    refine br_f (by decide) ?_
    exact ⟨rfl, rfl, ⟨_, rfl⟩, hR⟩
  refine bn_t (xb1 (in_row6 hk)) ?_
  have hVV : ∀ i, i < 40 → σ (3 + k) i = σ 70 (40 * k + i) := (hR.1.2 k hk).2
  rcases claims_both hR hC hM hV hk with ⟨f, f0, f6, hS, hB⟩ | ⟨n, n8, s1, s2, hg, hr, hS, hB⟩
  · refine hS _ (fun σ1 h1 => ?_)
    refine br_f (nI_ne0 f0 (by omega)) ?_
    refine e_S_refuse σ1 τ (nI f) (q_in f6 (by decide)) _ ?_
    refine ⟨rfl, ?_⟩
    refine ev_go 100 [] ?_
    refine hB σ1 h1 _ (fun σ2 h2 => ?_)
    obtain ⟨σ3, h3, rfl⟩ := h2
    refine br_f (by decide) ?_
    exact ⟨rfl, rfl, ⟨_, rfl⟩, hR.fnd h1 (by decide) f6 h3 (by decide)⟩
  obtain ⟨V, hVe⟩ : ∃ V, V = σ (3 + k) := ⟨_, rfl⟩
  rw [← hVe] at hg hVV
  obtain ⟨p1, p2, p3⟩ := hold_pure h7 n8 hg hr (edP_in hV)
  have hp8 : 2 ^ n ≤ 2 ^ 8 := Nat.pow_le_pow_right (by decide) n8
  have hpa := pp_le p2 (by omega)
  refine hS _ (fun σ1 h1 => ?_)
  refine br_t rfl ?_
  obtain ⟨hA1, hG1⟩ := h1
  refine ⟨6, rfl, q_in hk (by decide), ?_⟩
  rw [cl7 (by omega), hA1 9 (by decide), s1]
  refine e_D_clear σ1 τ _ (fun σ2 h2 => ?_)
  have hA2 : Ag [31, 32, 33, 39] σ σ2 := (hA1.mono (by decide)).trans (h2.1.mono (by decide))
  refine ev_lp (M := m_S_hold) (pc := 49) (st := []) (g := x_g) (τ := τ) n (fun i => [.ref 0, .int (nI k), .int 0, .int (nI n), .int (nI i), .null, .null]) (fun i σ' => Ag [39, 40, 41, 42] σ2 σ' ∧ Dp σ' i (ca V) (cb V) (fun q => 256 - 2 ^ q)) (fun i hi σ3 hI kk => ?_) (fun σ3 hI => ?_) σ2 ⟨Ag.refl, h2.2.1, fun j hj => absurd hj (Nat.not_lt_zero j), fun j hj => absurd hj (Nat.not_lt_zero j), fun j hj => absurd hj (Nat.not_lt_zero j)⟩
  · obtain ⟨hA3, hD3⟩ := hI
    obtain ⟨c0, c1, c2, c3⟩ := hg i hi
    have er : σ3 (3 + k) = V := by rw [hA3 (3 + k) (by simp; omega), hA2 (3 + k) (by simp; omega), hVe]
    have hp : 2 ^ i ≤ 2 ^ 7 := Nat.pow_le_pow_right (by decide) (by omega)
    refine ev_go 100 [49] ?_
    refine br_f (nI_ge hi (by omega)) ?_
    refine e_S_aheadByClaim σ3 τ hk (by omega) (by rw [er]; exact c0) _ ?_
    refine e_S_behindByClaim σ3 τ hk (by omega) (by rw [er]; exact c0) _ ?_
    rw [er]
    refine e_D_addPair σ3 τ hD3 (by omega) (c := 256 - 2 ^ i) rfl rfl (by rw [q_shl1 (by omega)]; exact pk_sub (a := 256) (by omega)) _ (fun σ4 h4 => ?_)
    show Ev m_S_hold 49 [.ref 0, .int (nI k), .int 0, .int (nI n), .int (nI i + 1), .null, .null] [] x_g σ4 τ _
    rw [nI_1]
    refine kk σ4 ⟨hA3.trans h4.1, ?_⟩
    have := h4.2
    rw [nup_self, nup_self, show nup (fun q => 256 - 2 ^ q) i (256 - 2 ^ i) = (fun q => 256 - 2 ^ q) from nup_self (A := fun q => 256 - 2 ^ q)] at this
    exact this
  obtain ⟨hA3, hD3⟩ := hI
  have hA13 : Ag [39, 40, 41, 42] σ1 σ3 := (h2.1.mono (by decide)).trans hA3
  refine ev_go 100 [] ?_
  refine br_t (nI_le (Nat.le_refl _) (by omega)) ?_
  refine e_D_leastWeight σ3 τ h7 (hG1.1.ag hA13 (by decide) (by decide)) hD3 (by omega) (fun p hp => by have := hg p hp; exact ⟨Nat.lt_of_lt_of_le this.2.1 h7, Nat.lt_of_lt_of_le this.2.2.1 h7⟩) (a := wa n (fun _ => true) (ca V) (cb V) (fun k => 256 - 2 ^ k)) (fun S i => ?_) (fun S i => Nat.le_trans (wa_le S i) (Nat.le_trans (w8_b n8) (by decide))) _ (fun σ4 h4 => ?_)
  · unfold ws wa
    refine sg_congr (fun p hp => ?_)
    by_cases hc : ca V p = i ∧ S.testBit (cb V p) = true
    · rw [if_pos hc, if_pos ⟨rfl, hc.1, hc.2⟩]
    · rw [if_neg hc, if_neg (fun z => hc z.2)]
  have hA4 : Ag [31, 32, 33, 39, 40, 41, 42, 43] σ σ4 := ((hA1.mono (by decide)).trans (hA13.mono (by decide))).trans (h4.mono (by decide))
  have hdb := ds_b (e := edP P) (n := pn P) (a := wa n (fun _ => true) (ca V) (cb V) (fun k => 256 - 2 ^ k)) (2 ^ pn P - 1)
  generalize hW : ds (edP P) (pn P) (wa n (fun _ => true) (ca V) (cb V) (fun k => 256 - 2 ^ k)) (2 ^ pn P - 1) = W at *
  generalize hd : (hw (hgd V (edP P) (pn P) n) (2 ^ n)).1 = d at *
  have eK : (nI W + 256 - 1) / 256 = nI (n - pp d) := by
    rw [show (256 : Int32) = nI 256 from rfl, nI_add, show (1 : Int32) = nI 1 from rfl, pk_sub (by omega), pk_div (by omega) (by decide) (by decide)]
    exact congrArg nI (by omega)
  have eB : (1 : Int32) <<< (nI n &&& 31) - 1 - (nI (n - pp d) * 256 - nI W) = nI d := by
    rw [q_shl1 (by omega), show (256 : Int32) = nI 256 from rfl, pk_mul, pk_sub (by omega), show (1 : Int32) = nI 1 from rfl, pk_sub (by omega), pk_sub (by omega)]
    exact congrArg nI (by omega)
  have eR : nI n - nI (n - pp d) = nI (pp d) := by
    rw [pk_sub (by omega)]
    exact congrArg nI (by omega)
  refine ⟨by decide, ?_⟩
  rw [eK]
  refine ⟨rfl, ?_⟩
  rw [eB, eR]
  have hM5 : PM (c_told σ4 (nI d)) P := (hM.ag hA4 (by decide)).ag Ag.ctold (by decide)
  have hT : Ag [0] σ4 (c_told σ4 (nI d)) := Ag.ctold
  have e69 : c_told σ4 (nI d) 69 = σ 69 := by rw [hT 69 (by decide), hA4 69 (by decide)]
  have e70 : c_told σ4 (nI d) 70 = σ 70 := by rw [hT 70 (by decide), hA4 70 (by decide)]
  refine ev_go 100 [20] ?_
  refine hB (c_told σ4 (nI d)) τ hM5 e69 e70 _ (fun σ5 h5 => ?_)
  refine br_t rfl ?_
  have hw0 : Ag [85, 86] (c_told σ4 (nI d)) σ5 := h5.1
  have lp := ev_lj (α := Value) (M := m_M_hold) (pc := 20) (st := []) (g := x_g) (τ := τ) (Q := fun r2 g2 σ2 τ2 => g2 = x_g ∧ some (Value.int (nI (pp d))) = r2 ∧ (∃ v, some (Value.int (nI (pp d))) = some v) ∧ Rel σ2 τ2) (2 ^ n) (fun s u => [.ref 67, .int (nI k), .int 0, .int (nI (hw (hgd V (edP P) (pn P) n) s).2 - 1), .int (nI (hw (hgd V (edP P) (pn P) n) s).1), .int (nI s), u]) (fun s σ' => Ag [85, 86] (c_told σ4 (nI d)) σ') (fun s hs u σ6 hI kk => ?_) (fun u σ6 hI => ?_) .null σ5 hw0
  · show Ev m_M_hold 20 [.ref 67, .int (nI k), .int 0, .int (-1), .int 0, .int 0, .null] [] x_g σ5 τ _
    rw [show (-1 : Int32) = nI 0 - 1 from by decide]
    exact lp
  · have hM6 := hM5.ag hI (by decide)
    have s6 : σ6 69 k = nI n := by rw [hI 69 (by decide), e69]; exact s2
    have hwl := hw_le (g := hgd V (edP P) (pn P) n) (N := s) (n := n) (by omega) (by omega)
    have hps := pp_le (s := s) (n := n) hs (by omega)
    have no : ¬ (decide ((hw (hgd V (edP P) (pn P) n) s).2 ≤ pp s) && hgd V (edP P) (pn P) n s) = true → ∀ (u : Value) (σ8 : xS), Ag [85, 86] (c_told σ4 (nI d)) σ8 → Ev m_M_hold 20 [.ref 67, .int (nI k), .int 0, .int (nI (hw (hgd V (edP P) (pn P) n) s).2 - 1), .int (nI (hw (hgd V (edP P) (pn P) n) s).1), .int (nI s + 1), u] [] x_g σ8 τ (fun r2 g2 σ2 τ2 => g2 = x_g ∧ some (Value.int (nI (pp d))) = r2 ∧ (∃ v, some (Value.int (nI (pp d))) = some v) ∧ Rel σ2 τ2) := by
      intro hc u σ8 h8
      rw [nI_1]
      have := kk u σ8 h8
      simp only [hw] at this
      rw [if_neg hc] at this
      exact this
    refine ev_go 100 [20, 55] ?_
    refine ⟨6, rfl, q_in hk (by decide), ?_⟩
    rw [cl7 (by omega), s6]
    refine br_f (by rw [q_shl1 (by omega)]; exact nI_ge hs (by omega)) ?_
    refine e_M_bits σ6 τ (by omega) _ ?_
    by_cases hlt : (hw (hgd V (edP P) (pn P) n) s).2 ≤ pp s
    · refine br_f (fun z => ?_) ?_
      · have z2 := (q_pred (n := (hw (hgd V (edP P) (pn P) n) s).2) (by omega) (nI (pp s))).mpr (nI_le hlt (by omega))
        rw [Int32.lt_iff_toInt_lt] at z2
        rw [Int32.le_iff_toInt_le] at z
        omega
      refine e_M_findAhead σ6 τ hM6 hV (a := 0) (b := 0) (by decide) (by decide) hV.2.2.1 hM6.2.2.1 _ (fun σ7 h7' => ?_)
      rw [ed00] at h7'
      refine ev_lp (M := m_M_hold) (pc := 55) (st := []) (g := x_g) (τ := τ) n (fun i => [.ref 67, .int (nI k), .int 0, .int (nI (hw (hgd V (edP P) (pn P) n) s).2 - 1), .int (nI (hw (hgd V (edP P) (pn P) n) s).1), .int (nI s), .int (nI i)]) (fun i σ' => Ag [85, 86] (c_told σ4 (nI d)) σ' ∧ Mr σ' (pn P) (cesS V (edP P) s i)) (fun i hi σ8 hI8 kk2 => ?_) (fun σ8 hI8 => ?_) σ7 ⟨hI.trans (h7'.1.mono (by decide)), h7'.2⟩
      · obtain ⟨hA8, hB8⟩ := hI8
        refine ev_go 100 [55] ?_
        refine ⟨6, rfl, q_in hk (by decide), ?_⟩
        rw [cl7 (by omega), hA8 69 (by decide), e69, s2]
        refine br_f (nI_ge hi (by omega)) ?_
        refine e_M_has σ8 τ (by omega) (by omega) _ ?_
        by_cases hb : s.testBit i = true
        · refine br_f (xb1 hb) ?_
          refine e_M_claims σ8 τ h7 hk (by omega) (V := V) (fun i hi => by rw [hA8 70 (by decide), e70]; exact hVV i hi) (hg i hi) hB8 _ (fun σ9 h9 => ?_)
          show Ev m_M_hold 55 [.ref 67, .int (nI k), .int 0, .int (nI (hw (hgd V (edP P) (pn P) n) s).2 - 1), .int (nI (hw (hgd V (edP P) (pn P) n) s).1), .int (nI s), .int (nI i + 1)] [] x_g σ9 τ _
          rw [nI_1]
          refine kk2 σ9 ⟨hA8.trans (h9.1.mono (by decide)), ?_⟩
          simp only [cesS]
          rw [if_pos hb]
          exact h9.2
        · refine br_t (xb0 hb) ?_
          show Ev m_M_hold 55 [.ref 67, .int (nI k), .int 0, .int (nI (hw (hgd V (edP P) (pn P) n) s).2 - 1), .int (nI (hw (hgd V (edP P) (pn P) n) s).1), .int (nI s), .int (nI i + 1)] [] x_g σ8 τ _
          rw [nI_1]
          refine kk2 σ8 ⟨hA8, ?_⟩
          simp only [cesS]
          rw [if_neg hb]
          exact hB8
      · obtain ⟨hA8, hB8⟩ := hI8
        have hM8 := hM5.ag hA8 (by decide)
        refine ev_go 100 [20] ?_
        refine ⟨6, rfl, q_in hk (by decide), ?_⟩
        rw [cl7 (by omega), hA8 69 (by decide), e69, s2]
        refine br_t (nI_le (Nat.le_refl _) (by omega)) ?_
        refine e_M_isRing σ8 τ h7 hM8.1 (hB8.mono h7) _ (fun σ9 h9 => ?_)
        have hA9 : Ag [85, 86] (c_told σ4 (nI d)) σ9 := hA8.trans (h9.1.mono (by decide))
        by_cases hrr : rg (cesS V (edP P) s n) (pn P) = true
        · refine bn_t (xb1 hrr) ?_
          refine br_t rfl ?_
          refine br_t rfl ?_
          exact no (by simp [hgd, hrr]) _ σ9 hA9
        · refine bn_f (xb0 hrr) ?_
          refine br_f (by decide) ?_
          refine br_f (by decide) ?_
          refine e_M_bits σ9 τ (by omega) _ ?_
          show Ev m_M_hold 20 [.ref 67, .int (nI k), .int 0, .int (nI (pp s)), .int (nI s), .int (nI s + 1), .int 1] [] x_g σ9 τ _
          rw [nI_1, ← nI_pred (pp s)]
          have := kk (.int 1) σ9 hA9
          simp only [hw] at this
          rw [if_pos (by simp [hgd, hrr, hlt])] at this
          exact this
    · refine br_t ?_ ?_
      · have z2 : ¬ (nI (hw (hgd V (edP P) (pn P) n) s).2 - 1) < nI (pp s) := fun z => hlt ((nI_leI (by omega) (by omega)).mp ((q_pred (by omega) _).mp z))
        rw [Int32.lt_iff_toInt_lt] at z2
        rw [Int32.le_iff_toInt_le]
        omega
      exact no (by simp [hlt]) _ σ6 hI
  · have hM6 := hM5.ag hI (by decide)
    have s6 : σ6 69 k = nI n := by rw [hI 69 (by decide), e69]; exact s2
    rw [hd, p1, nI_pred]
    refine ev_go 100 [] ?_
    refine ⟨6, rfl, q_in hk (by decide), ?_⟩
    rw [cl7 (by omega), s6]
    refine br_t (by rw [q_shl1 (by omega)]; exact nI_le (Nat.le_refl _) (by omega)) ?_
    refine e_M_tells σ6 τ _ _ _ ?_
    exact ⟨rfl, rfl, ⟨_, rfl⟩, hR.tld hA4 (by decide) hI (by decide)⟩
