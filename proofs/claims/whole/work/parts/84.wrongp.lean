theorem pair_wrong : Pair m_S_wrong m_M_wrong [] := by
  intro σ τ hR
  obtain ⟨P, hC, hM, hV, hK⟩ := hR.2.2.1
  have h7 := hV.1
  have h16 := hV.2.1
  obtain ⟨p1, p2, p3⟩ := wrong_pure hV
  have hd16 : (wl (wg P) 17 (2 ^ pc P)).1 < 65536 := Nat.lt_of_lt_of_le p2 (Nat.pow_le_pow_right (n := 2) (by decide) h16)
  have hpd := pp_le p2 (by omega)
  have h2c : 2 ^ pc P ≤ 65536 := Nat.pow_le_pow_right (n := 2) (by decide) h16
  refine ev_go 100 [34] ?_
  refine e_G_clear σ τ h7 hC.1 _ (fun σ1 h1 => ?_)
  have hC1 := hC.ag h1.1 (by decide)
  refine e_G_addWind σ1 τ hC1 hV h1.2.2 _ (fun σ2 h2 => ?_)
  have hA2 : Ag [31, 32] σ σ2 := h1.1.trans (h2.1.mono (by decide))
  have hG2 : Gr σ2 (pn P) (ew P) := ⟨h1.2.1.ag h2.1 (by decide), h2.2.congr (fun j _ => bs_ext (fun i _ => by simp [ew]))⟩
  refine e_D_clear σ2 τ _ (fun σ3 h3 => ?_)
  have hC3 := (hC.ag hA2 (by decide)).ag h3.1 (by decide)
  refine ev_lp (M := m_S_wrong) (pc := 34) (st := []) (g := x_g) (τ := τ) (pc P) (fun k => [.ref 0, .int (nI k)]) (fun k σ' => Ag [39, 40, 41, 42] σ3 σ' ∧ ∃ m w v g, m ≤ k ∧ Dp σ' m w v g ∧ (∀ p, p < m → w p < 7 ∧ v p < 7) ∧ ∀ h : Nat → Nat → Nat → Nat, sg (fun p => h (w p) (v p) (g p)) m = sg (fun q => if tl P q = true then h (pu P q) (po P q) (65536 + 2 ^ q) else 0) k) (fun k hk σ4 hI kk => ?_) (fun σ4 hI => ?_) σ3 ⟨Ag.refl, 0, _, _, _, Nat.le_refl 0, h3.2, fun p hp => absurd hp (Nat.not_lt_zero p), fun h => rfl⟩
  · obtain ⟨hA4, m, w, v, g, hm, hD, hb, hs⟩ := hI
    have hC4 := hC3.ag hA4 (by decide)
    obtain ⟨b1, b2, b3⟩ := hV.2.2.2.2 k hk
    refine ev_go 100 [34] ?_
    refine br_f (by rw [hC4.2.1]; exact nI_ge hk (by omega)) ?_
    refine e_P_tells σ4 τ hC4 hV hk _ ?_
    by_cases ht : tl P k = true
    · refine br_f (xb1 ht) ?_
      refine ⟨16, rfl, q_in (by omega) (by decide), ?_⟩
      refine ⟨16, rfl, q_in (by omega) (by decide), ?_⟩
      have ewt : (65536 : Int32) + ((1 : Int32) <<< (nI k &&& 31)) = nI (65536 + 2 ^ k) := by
        rw [q_shl1 (by omega), show (65536 : Int32) = nI 65536 from rfl, nI_add]
      refine e_D_addPair σ4 τ hD (by omega) (a := pu P k) (b := po P k) (c := 65536 + 2 ^ k) (by rw [cl7 (by omega)]; exact (hC4.2.2.2.2 k hk).2) (by rw [cl7 (by omega)]; exact (hC4.2.2.2.2 k hk).1) ewt _ (fun σ5 h5 => ?_)
      show Ev m_S_wrong 34 [.ref 0, .int (nI k + 1)] [] x_g σ5 τ _
      rw [nI_1]
      refine kk σ5 ⟨hA4.trans h5.1, m + 1, _, _, _, by omega, h5.2, fun p hp => ?_, fun h => ?_⟩
      · by_cases e : p = m
        · rw [e, nup_eq, nup_eq]
          omega
        · rw [nup_ne e, nup_ne e]
          exact hb p (by omega)
      · rw [sg_app, hs h]
        simp only [sg]
        rw [if_pos ht]
    · refine br_t (xb0 ht) ?_
      show Ev m_S_wrong 34 [.ref 0, .int (nI k + 1)] [] x_g σ4 τ _
      rw [nI_1]
      refine kk σ4 ⟨hA4, m, w, v, g, by omega, hD, hb, fun h => ?_⟩
      rw [hs h]
      simp only [sg]
      rw [if_neg ht, Nat.add_zero]
  obtain ⟨hA4, m, w, v, g, hm, hD, hb, hs⟩ := hI
  have hC4 := hC3.ag hA4 (by decide)
  have hA24 : Ag [39, 40, 41, 42] σ2 σ4 := (h3.1.mono (by decide)).trans hA4
  refine ev_go 100 [] ?_
  refine br_t (by rw [hC4.2.1]; exact nI_le (Nat.le_refl _) (by omega)) ?_
  refine e_D_leastWeight σ4 τ h7 (hG2.ag hA24 (by decide) (by decide)) hD (by omega) hb (a := wa (pc P) (tl P) (pu P) (po P) (fun k => 65536 + 2 ^ k)) (fun S i => ?_) (fun S i => Nat.le_trans (wa_le S i) (Nat.le_trans (w16_b h16) (by decide))) _ (fun σ5 h5 => ?_)
  · unfold ws wa
    rw [hs (fun a b c => if a = i ∧ S.testBit b = true then c else 0)]
    refine sg_congr (fun p hp => ?_)
    by_cases ht : tl P p = true
    · rw [if_pos ht]
      by_cases hc : pu P p = i ∧ S.testBit (po P p) = true
      · rw [if_pos hc, if_pos ⟨ht, hc.1, hc.2⟩]
      · rw [if_neg hc, if_neg (fun z => hc z.2)]
    · rw [if_neg ht, if_neg (fun z => ht z.1)]
  rw [p3]
  generalize hd : (wl (wg P) 17 (2 ^ pc P)).1 = d at *
  have hA5 : Ag [31, 32, 39, 40, 41, 42, 43] σ σ5 := ((hA2.mono (by decide)).trans (hA24.mono (by decide))).trans (h5.mono (by decide))
  refine ⟨by decide, ?_⟩
  refine ⟨by decide, ?_⟩
  have er : nI (65536 * pp d + d) - nI (65536 * pp d + d) / 65536 * 65536 = nI d := by
    have := pk_rem (a := 65536 * pp d + d) (d := 65536) (by omega) (by decide) (by decide)
    rw [show (65536 * pp d + d) % 65536 = d by omega] at this
    exact this
  have eq : nI (65536 * pp d + d) / 65536 = nI (pp d) := by
    have := pk_div (a := 65536 * pp d + d) (d := 65536) (by omega) (by decide) (by decide)
    rw [show (65536 * pp d + d) / 65536 = pp d by omega] at this
    exact this
  rw [er, eq]
  refine ⟨rfl, ?_⟩
  have hM6 : PM (c_told σ5 (nI d)) P := (hM.ag hA5 (by decide)).ag Ag.ctold (by decide)
  have esh : ∀ σ6 : xS, Ag [85, 86] (c_told σ5 (nI d)) σ6 → (1 : Int32) <<< (σ6 67 14 &&& 31) = nI (2 ^ pc P) := fun σ6 h => by
    rw [(hM6.ag h (by decide)).2.1]
    exact q_shl1 (by omega)
  have hT := bs_lt (tl P) (pc P)
  refine ev_go 100 [13] ?_
  refine e_M_tellingBits (c_told σ5 (nI d)) τ hM6 hV _ ?_
  refine ev_lj (α := Value) (M := m_M_wrong) (pc := 13) (st := []) (g := x_g) (τ := τ) (Q := (fun r2 g2 σ2 τ2 => g2 = x_g ∧ some (Value.int (nI (pp d))) = r2 ∧ (∃ v, some (Value.int (nI (pp d))) = some v) ∧ Rel σ2 τ2)) (2 ^ pc P) (fun s u => [.ref 67, .int (nI (bs (tl P) (pc P))), .int (nI (wl (wg P) 17 s).2), .int (nI (wl (wg P) 17 s).1), .int (nI s), u]) (fun s σ' => Ag [85, 86] (c_told σ5 (nI d)) σ') (fun s hs u σ6 hI kk => ?_) (fun u σ6 hI => ?_) .null (c_told σ5 (nI d)) Ag.refl
  · have hM7 := hM6.ag hI (by decide)
    have hwl := wl_lt (g := wg P) (b := 17) s
    have hps := pp_le (s := s) (n := pc P) (by omega) (by omega)
    have hnd : nd s (bs (tl P) (pc P)) < 2 ^ 31 := by
      have : nd s (bs (tl P) (pc P)) < 2 ^ pc P := Nat.xor_lt_two_pow hs (Nat.and_lt_two_pow _ hT)
      omega
    have no : ¬ (decide (pp s < (wl (wg P) 17 s).2) && wg P s) = true → ∀ (u : Value) (σ8 : xS), Ag [85, 86] (c_told σ5 (nI d)) σ8 → Ev m_M_wrong 13 [.ref 67, .int (nI (bs (tl P) (pc P))), .int (nI (wl (wg P) 17 s).2), .int (nI (wl (wg P) 17 s).1), .int (nI s + 1), u] [] x_g σ8 τ (fun r2 g2 σ2 τ2 => g2 = x_g ∧ some (Value.int (nI (pp d))) = r2 ∧ (∃ v, some (Value.int (nI (pp d))) = some v) ∧ Rel σ2 τ2) := by
      intro hc u σ8 h8
      rw [nI_1]
      have := kk u σ8 h8
      simp only [wl] at this
      rw [if_neg hc] at this
      exact this
    refine ev_go 100 [13] ?_
    refine br_f (by rw [esh σ6 hI]; exact nI_ge hs (by omega)) ?_
    by_cases t1 : nd s (bs (tl P) (pc P)) = 0
    · refine bn_f (by rw [q_nd, t1]; rfl) ?_
      refine e_M_bits σ6 τ (by omega) _ ?_
      by_cases hlt : pp s < (wl (wg P) 17 s).2
      · refine br_f (nI_ge hlt (by omega)) ?_
        refine e_M_findAhead σ6 τ hM7 hV (a := s) (b := 0) (by omega) (by decide) hV.2.2.1 hM7.2.2.1 _ (fun σ7 h7' => ?_)
        have hM8 := hM7.ag h7'.1 (by decide)
        refine e_M_isRing σ7 τ h7 hM8.1 (h7'.2.mono h7) _ (fun σ8 h8 => ?_)
        have hA8 : Ag [85, 86] (c_told σ5 (nI d)) σ8 := (hI.trans (h7'.1.mono (by decide))).trans (h8.1.mono (by decide))
        by_cases hr : rg (ed P (fT P s 0) (tT 0) (pw P == 1)) (pn P) = true
        · refine bn_t (xb1 hr) ?_
          refine br_t rfl ?_
          refine br_t rfl ?_
          exact no (by simp [wg, hr]) _ σ8 hA8
        · refine bn_f (xb0 hr) ?_
          refine br_f (by decide) ?_
          refine br_f (by decide) ?_
          refine e_M_bits σ8 τ (by omega) _ ?_
          show Ev m_M_wrong 13 [.ref 67, .int (nI (bs (tl P) (pc P))), .int (nI (pp s)), .int (nI s), .int (nI s + 1), .int 1] [] x_g σ8 τ _
          rw [nI_1]
          have := kk (.int 1) σ8 hA8
          simp only [wl] at this
          rw [if_pos (by simp [wg, t1, hr, hlt])] at this
          exact this
      · refine br_t (nI_le (by omega) (by omega)) ?_
        exact no (by simp [hlt]) _ σ6 hI
    · refine bn_t (by rw [q_nd]; exact nI_ne0 (Nat.pos_of_ne_zero t1) hnd) ?_
      exact no (by simp [wg, t1]) _ σ6 hI
  · rw [hd, p1]
    refine ev_go 100 [] ?_
    refine br_t (by rw [esh σ6 hI]; exact nI_le (Nat.le_refl _) (by omega)) ?_
    refine e_M_tells σ6 τ _ _ _ ?_
    exact ⟨rfl, rfl, ⟨_, rfl⟩, hR.tld hA5 (by decide) hI (by decide)⟩
