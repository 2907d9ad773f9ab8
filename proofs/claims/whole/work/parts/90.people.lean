theorem fwM_b {P : xP} (T : Nat) : fwM P T ≤ 8 := by
  by_cases e : T = 0
  · rw [e, fwM_0]
    omega
  · rw [fwM_s e]
    exact hz_le _
theorem e_M_people_in (σ : xS) (τ : xL) {P : xP} (h7 : pn P ≤ 7) {S : Nat} (hS : S < 2 ^ pn P) (h0 : ¬ S = 0) (h92 : ∀ T, T < 2 ^ pn P → σ 92 T = x_b (one P T = true)) (h91 : ∀ T, T < S → σ 91 T = nI (fwM P T)) {v1 : Value} {Q : xQ} (kend : ∀ u : Value, Ev m_M_people 149 [.ref 67, v1, .int (nI S), .int (nI (fwM P S)), .int (nI 0), u] [] x_g σ τ Q) : ∀ q, q ≤ S → nd q S = 0 → ∀ (L : Nat) (u : Value), pin P S q L → Ev m_M_people 90 [.ref 67, v1, .int (nI S), .int (nI L), .int (nI q), u] [] x_g σ τ Q := by
  have h128 := p2_7 h7
  intro q
  induction q using Nat.strongRecOn with
  | ind q ih =>
    intro hqS hsub L u hpin
    have hL := hpin.1
    by_cases hq : q = 0
    · subst hq
      refine ev_go 100 [149] ?_
      refine br_t (by decide) ?_
      rw [pin_0 h0 hpin]
      exact kend u
    · have hn := pin_s (Nat.pos_of_ne_zero hq) hsub hpin
      have hlt := nd_lts hq hsub
      have hfb := fwM_b (P := P) (nd S q)
      have hle : (q - 1) &&& S ≤ q - 1 := Nat.and_le_left
      have next : ∀ (u : Value), Ev m_M_people 90 [.ref 67, v1, .int (nI S), .int (nI (if one P q = true then min L (fwM P (nd S q) + 1) else L)), .int (nI q - 1 &&& nI S), u] [] x_g σ τ Q := by
        intro u
        obtain ⟨q0, rfl⟩ : ∃ q0, q = q0 + 1 := ⟨q - 1, by omega⟩
        rw [nI_pred, q_and]
        exact ih ((q0 + 1 - 1) &&& S) (by omega) (by omega) (nd_0.mpr (fun k hk => by rw [Nat.testBit_and] at hk; simp only [Bool.and_eq_true] at hk; exact hk.2)) _ u hn
      refine ev_go 100 [90] ?_
      refine br_f (nI_nle (Nat.pos_of_ne_zero hq) (by omega)) ?_
      refine ⟨128, rfl, q_in (by omega) (by decide), ?_⟩
      rw [cl7 (by omega), h92 q (by omega)]
      by_cases ho : one P q = true
      · refine br_f (xb1 ho) ?_
        refine ⟨128, rfl, by rw [q_nd]; exact q_in (by omega) (by decide), ?_⟩
        rw [q_nd, cl7 (by omega), h91 _ hlt]
        have e1 : (1 : Int32) + nI (fwM P (nd S q)) = nI (fwM P (nd S q) + 1) := by rw [show (1 : Int32) = nI 1 from rfl, nI_add, Nat.add_comm]
        rw [if_pos ho] at next
        by_cases hm : fwM P (nd S q) + 1 < L
        · refine br_f (by rw [e1]; exact nI_ge hm (by omega)) ?_
          have := next (.int ((1 : Int32) + nI (fwM P (nd S q))))
          rw [Nat.min_eq_right (by omega), ← e1] at this
          exact this
        · refine br_t (by rw [e1]; exact nI_le (by omega) (by omega)) ?_
          have := next (.int ((1 : Int32) + nI (fwM P (nd S q))))
          rw [Nat.min_eq_left (by omega)] at this
          exact this
      · refine br_t (xb0 ho) ?_
        refine br_t (nI_le (b := 8) hL (by decide)) ?_
        have := next (.int 8)
        rw [if_neg ho] at this
        exact this
set_option maxHeartbeats 2000000 in
theorem e_M_people (σ : xS) (τ : xL) {P : xP} (hM : PM σ P) (hV : PV P) : Rs m_M_people [.ref 67] σ τ (some (.int (nI (fwM P (2 ^ pn P - 1))))) (fun σ' => ∃ σ1, Ag [91, 92] σ σ1 ∧ σ' = m_told σ1 (nI (mx (okm P) (2 ^ pn P)))) := by
  intro Q h
  have h7 := hV.1
  have h128 := p2_7 h7
  have hp := Nat.one_le_two_pow (n := pn P)
  have esh : ∀ σ' : xS, Ag [91, 92] σ σ' → (1 : Int32) <<< (σ' 67 10 &&& 31) = nI (2 ^ pn P) := fun σ' h => by
    rw [h 67 (by decide), hM.1]
    exact q_shl1 (by omega)
  refine ev_go 100 [4] ?_
  refine ev_lp (M := m_M_people) (pc := 4) (st := []) (g := x_g) (τ := τ) (Q := Q) (2 ^ pn P) (fun s => [.ref 67, .int (nI (mx (okm P) s)), .int (nI s), .null, .null, .null]) (fun s σ' => Ag [91, 92] σ σ' ∧ ∀ T, T < s → σ' 92 T = x_b (one P T = true)) (fun s hs σ1 hI kk => ?_) (fun σ1 hI => ?_) σ ⟨Ag.refl, fun T hT => absurd hT (Nat.not_lt_zero T)⟩
  · obtain ⟨hA1, h92⟩ := hI
    have hM1 := hM.ag hA1 (by decide)
    have hm := mx_le (ok := okm P) (n := pn P) (by omega) s (by omega)
    have hps := pp_le (s := s) (n := pn P) hs (by omega)
    have hnew : ∀ T, T < s + 1 → x_row σ1 92 (upd (σ1 92) s (x_b (one P s = true))) 92 T = x_b (one P T = true) := fun T hT => by
      rw [rowput]
      by_cases e : T = s
      · subst e
        rw [if_pos rfl]
      · rw [if_neg e]
        exact h92 T (by omega)
    have no : ¬ okm P s = true ∨ pp s ≤ mx (okm P) s → Ev m_M_people 4 [.ref 67, .int (nI (mx (okm P) s)), .int (nI s + 1), .null, .null, .null] [] x_g (x_row σ1 92 (upd (σ1 92) s (x_b (one P s = true)))) τ Q := by
      intro hc
      rw [nI_1]
      have := kk _ ⟨hA1.row (by decide), hnew⟩
      simp only [mx] at this
      rcases hc with hc | hc
      · rw [if_neg hc] at this
        exact this
      · rw [Nat.max_eq_left hc, ite_self] at this
        exact this
    refine ev_go 100 [4] ?_
    refine br_f (by rw [esh σ1 hA1]; exact nI_ge hs (by omega)) ?_
    refine e_M_areOnes σ1 τ hM1 hV (by omega) _ ?_
    refine ⟨128, rfl, q_in (by omega) (by decide), x_b_01, ?_⟩
    rw [cl7 (by omega)]
    refine ⟨128, rfl, q_in (by omega) (by decide), ?_⟩
    rw [cl7 (by omega), rowput, if_pos rfl]
    by_cases t1 : one P s = true
    · refine br_f (xb1 t1) ?_
      refine e_M_has _ τ (s := s) (i := 0) (by omega) (by omega) _ ?_
      by_cases t2 : s.testBit 0 = true
      · refine br_f (xb1 t2) ?_
        refine e_M_bits _ τ (by omega) _ ?_
        by_cases t3 : pp s ≤ mx (okm P) s
        · refine br_t (nI_le t3 (by omega)) ?_
          exact no (Or.inr t3)
        · refine br_f (nI_ge (by omega) (by omega)) ?_
          refine e_M_bits _ τ (by omega) _ ?_
          show Ev m_M_people 4 [.ref 67, .int (nI (pp s)), .int (nI s + 1), .null, .null, .null] [] x_g (x_row σ1 92 (upd (σ1 92) s (x_b (one P s = true)))) τ Q
          rw [nI_1]
          have := kk _ ⟨hA1.row (by decide), hnew⟩
          simp only [mx] at this
          rw [if_pos (by simp only [okm]; rw [t1, t2]; rfl), Nat.max_eq_right (by omega)] at this
          exact this
      · refine br_t (xb0 t2) ?_
        exact no (Or.inl (by simp only [okm]; simp only [Bool.not_eq_true] at t2; rw [t2]; simp))
    · refine br_t (xb0 t1) ?_
      exact no (Or.inl (by simp [okm, t1]))
  · obtain ⟨hA1, h92⟩ := hI
    refine ev_go 100 [74] ?_
    refine br_t (by rw [esh σ1 hA1]; exact nI_le (Nat.le_refl _) (by omega)) ?_
    refine ⟨128, rfl, q_in (i := 0) (by decide) (by decide), ?_⟩
    refine ev_lj (α := Value × Value × Value) (M := m_M_people) (pc := 74) (st := []) (g := x_g) (Q := Q) (τ := τ) (2 ^ pn P - 1) (fun s u => [.ref 67, .int (nI (mx (okm P) (2 ^ pn P))), .int (nI (s + 1)), u.1, u.2.1, u.2.2]) (fun s σ' => Ag [91, 92] σ σ' ∧ (∀ T, T < 2 ^ pn P → σ' 92 T = x_b (one P T = true)) ∧ ∀ T, T ≤ s → σ' 91 T = nI (fwM P T)) (fun s hs u σ2 hI kk => ?_) (fun u σ2 hI => ?_) (.null, .null, .null) _ ⟨hA1.row (by decide), h92, fun T hT => ?_⟩
    · obtain ⟨hA2, h92, h91⟩ := hI
      refine ev_go 100 [90] ?_
      refine br_f (by rw [esh σ2 hA2]; exact nI_ge (by omega) (by omega)) ?_
      refine e_M_people_in σ2 τ h7 (S := s + 1) (by omega) (by omega) h92 (fun T hT => h91 T (by omega)) (fun u => ?_) (s + 1) (Nat.le_refl _) (nd_0.mpr (fun k hk => hk)) 8 u.2.2 ⟨Nat.le_refl 8, fun p p1 p2 => by omega, Or.inl rfl⟩
      refine ev_go 100 [74] ?_
      refine ⟨128, rfl, q_in (by omega) (by decide), ?_⟩
      rw [cl7 (by omega)]
      show Ev m_M_people 74 [.ref 67, .int (nI (mx (okm P) (2 ^ pn P))), .int (nI (s + 1) + 1), _, _, _] [] x_g _ τ Q
      rw [nI_1]
      refine kk (_, _, _) _ ⟨hA2.row (by decide), h92, fun T hT => ?_⟩
      rw [rowput]
      by_cases e : T = s + 1
      · rw [if_pos e, e]
      · rw [if_neg e]
        exact h91 T (by omega)
    · obtain ⟨hA2, h92, h91⟩ := hI
      have esb : (1 : Int32) <<< (σ2 67 10 &&& 31) - 1 = nI (2 ^ pn P - 1) := by
        rw [esh σ2 hA2]
        exact pk_sub (a := 2 ^ pn P) (b := 1) hp
      refine ev_go 100 [] ?_
      refine br_t (by rw [esh σ2 hA2]; exact nI_le (by omega) (by omega)) ?_
      refine ⟨128, rfl, by rw [esb]; exact q_in (by omega) (by decide), ?_⟩
      rw [esb, cl7 (by omega), h91 _ (Nat.le_refl _)]
      refine e_M_tells σ2 τ _ _ _ ?_
      exact h _ ⟨σ2, hA2, rfl⟩
    · have : T = 0 := by omega
      subst this
      rw [fwM_0]
      rfl
theorem pair_people : Pair m_S_people m_M_people [] := by
  intro σ τ hR
  obtain ⟨P, hC, hM, hV, hK⟩ := hR.2.2.1
  have h7 := hV.1
  have hp := Nat.one_le_two_pow (n := pn P)
  refine ev_go 100 [] ?_
  refine e_F_take σ τ hC hV _ (fun σ1 h1 => ?_)
  obtain ⟨hA1, ha1, ho1⟩ := h1
  refine e_F_mostWith σ1 τ h7 ha1 ho1 _ ?_
  have hT : Ag [0] σ1 (c_told σ1 (nI (mx (okm P) (2 ^ pn P)))) := Ag.ctold
  refine e_F_fewest (c_told σ1 (nI (mx (okm P) (2 ^ pn P)))) τ h7 (by rw [hT 44 (by decide)]; exact ha1) (by rw [hT 45 (by decide)]; exact ho1) _ (fun σ2 h2 => ?_)
  refine ⟨rfl, ?_⟩
  refine e_M_people σ2 τ (((hM.ag hA1 (by decide)).ag hT (by decide)).ag h2 (by decide)) hV _ (fun σ3 h3 => ?_)
  obtain ⟨σ4, h4, rfl⟩ := h3
  rw [fw_eq hV h7 _ (by omega)]
  exact ⟨rfl, rfl, ⟨_, rfl⟩, hR.tld hA1 (by decide) (L2 := [46, 91, 92]) ((h2.mono (by decide)).trans (h4.mono (by decide))) (by decide)⟩
