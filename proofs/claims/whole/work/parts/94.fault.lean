/-! WHERE A TEXT IS AT FAULT -/
theorem rst_q {V : Nat → Int32} {len p q : Nat} {D : xP} (hr : (rst V len p D).1 = some q) : q ≤ p + 2 := by
  unfold rst at hr
  revert hr
  repeat (first | (split) | (intro hr; injection hr with hr; omega) | (intro hr; cases hr))
theorem rdf_q {V : Nat → Int32} {len q : Nat} : ∀ {f p : Nat} {D : xP}, (rdf V len f p D).1 = some q → q ≤ len + 1
  | 0, p, D, h => by cases h
  | f + 1, p, D, h => by
    simp only [rdf] at h
    by_cases hlt : p < len
    · rw [if_pos hlt] at h
      by_cases h32 : V p = 32
      · rw [if_pos h32] at h
        exact rdf_q h
      · rw [if_neg h32] at h
        cases hr : (rst V len p D).1 with
        | some q' =>
          rw [hr] at h
          injection h with h
          have := rst_q hr
          omega
        | none =>
          rw [hr] at h
          exact rdf_q h
    · rw [if_neg hlt] at h
      cases h
theorem rdf_dv {V : Nat → Int32} {len : Nat} : ∀ {f p : Nat} {D : xP}, DV D → DV (rdf V len f p D).2
  | 0, p, D, h => h
  | f + 1, p, D, h => by
    simp only [rdf]
    by_cases hlt : p < len
    · rw [if_pos hlt]
      by_cases h32 : V p = 32
      · rw [if_pos h32]
        exact rdf_dv h
      · rw [if_neg h32]
        cases hr : (rst V len p D).1 with
        | some q' => exact rst_dv h
        | none => exact rdf_dv (rst_dv h)
    · rw [if_neg hlt]
      exact h
theorem e_M_readAll_go (σ : xS) (τ : xL) {k len : Nat} (hk : k < 4) (hlen : σ 72 k = nI len) (hl : len ≤ 80) {V : Nat → Int32} (hVV : ∀ i, i < 80 → V i = σ 73 (80 * k + i)) {Q : xQ} : ∀ (f p : Nat) (D : xP) (σ1 : xS) (u : Value), len ≤ p + f → p ≤ 83 → DV D → AgM σ σ1 → DM σ1 D p → (∀ σ2 p2, AgM σ σ2 → DM σ2 (rdf V len f p D).2 p2 → Q (some (.int (aI (rdf V len f p D).1))) x_g σ2 τ) → Ev m_M_readAll 15 [.ref 67, .int (nI k), u] [] x_g σ1 τ Q
  | 0, p, D, σ1, u, hf, hp, hv, hA, hD, h => by
    refine ev_go 100 [] ?_
    refine ⟨4, rfl, q_in hk (by decide), ?_⟩
    rw [cl7 (by omega), hA.1 72 (by decide), hlen]
    refine br_t (by rw [hD.1]; exact nI_le (by omega) (by omega)) ?_
    exact h σ1 p hA hD
  | f + 1, p, D, σ1, u, hf, hp, hv, hA, hD, h => by
    have hn : pn D ≤ 7 := hv.1
    have hc : pc D ≤ 16 := hv.2.1
    have hlen1 : σ1 72 k = nI len := by rw [hA.1 72 (by decide)]; exact hlen
    have hVV1 : ∀ i, i < 80 → V i = σ1 73 (80 * k + i) := fun i hi => by rw [hA.1 73 (by decide)]; exact hVV i hi
    simp only [rdf] at h
    refine ev_go 100 [15] ?_
    refine ⟨4, rfl, q_in hk (by decide), ?_⟩
    rw [cl7 (by omega), hlen1]
    by_cases hlt : p < len
    case neg =>
      rw [if_neg hlt] at h
      refine br_t (by rw [hD.1]; exact nI_le (by omega) (by omega)) ?_
      exact h σ1 p hA hD
    rw [if_pos hlt] at h
    refine br_f (by rw [hD.1]; exact nI_ge hlt (by omega)) ?_
    refine e_M_byteAt σ1 τ hk hlen1 hl (p := p) (by omega) hVV1 hD.1 _ ?_
    have es : sgM V len p = V p := if_pos hlt
    rw [es]
    by_cases h32 : V p = 32
    · refine bn_f h32 ?_
      rw [if_pos h32] at h
      have q1 : σ1 67 18 + 1 = nI (p + 1) := by rw [hD.1, nI_1]
      exact e_M_readAll_go σ τ hk hlen hl hVV f (p + 1) D (plc σ1 (σ1 67 18 + 1)) (.int (V p)) (by omega) (by omega) hv (hA.trans AgM.plc) (hD.plc q1) h
    refine bn_t h32 ?_
    rw [if_neg h32] at h
    have hv2 := rst_dv (V := V) (len := len) (p := p) hv
    refine e_M_isFigure σ1 τ _ _ ?_
    have efg : fgv V len p = fig (V p) := if_pos hlt
    by_cases hfg : ¬ V p < 48 ∧ ¬ 57 < V p
    · refine br_f (xb1 hfg) ?_
      refine e_M_readCrossing σ1 τ hD hn hc hk hlen1 hl (by omega) hVV1 (by rw [efg]; exact fig_iff.mpr hfg) _ (fun σ2 h2 => ?_)
      cases hr : (rst V len p D).1 with
      | some q =>
        rw [hr] at h h2
        refine br_t (xb0 (by simp)) ?_
        have := h σ2 q (hA.trans h2.1) h2.2
        rw [show aI (some q) = σ2 67 18 from h2.2.1.symm] at this
        exact this
      | none =>
        rw [hr] at h h2
        refine br_f (xb1 rfl) ?_
        exact e_M_readAll_go σ τ hk hlen hl hVV f (p + 3) _ σ2 (.int (V p)) (by omega) (by omega) hv2 (hA.trans h2.1) h2.2 h
    · refine br_t (xb0 hfg) ?_
      refine e_M_readTrack σ1 τ hD hn hc hk hlen1 hl (by omega) hVV1 (by rw [efg]; exact fig_no hfg) _ (fun σ2 h2 => ?_)
      cases hr : (rst V len p D).1 with
      | some q =>
        rw [hr] at h h2
        refine bn_f (xb0 (by simp)) ?_
        have := h σ2 q (hA.trans h2.1) h2.2
        rw [show aI (some q) = σ2 67 18 from h2.2.1.symm] at this
        exact this
      | none =>
        rw [hr] at h h2
        refine bn_t (xb1 rfl) ?_
        exact e_M_readAll_go σ τ hk hlen hl hVV f (p + 3) _ σ2 (.int (V p)) (by omega) (by omega) hv2 (hA.trans h2.1) h2.2 h
theorem e_M_readAll (σ : xS) (τ : xL) {k len : Nat} (hk : k < 4) (hlen : σ 72 k = nI len) (hl : len ≤ 80) {V : Nat → Int32} (hVV : ∀ i, i < 80 → V i = σ 73 (80 * k + i)) (w : Nat) : Rs m_M_readAll [.ref 67, .int (nI k)] σ τ (some (.int (aI (rdf V len 81 0 (D0 w)).1))) (fun σ' => AgM σ σ' ∧ ∃ p, DM σ' (rdf V len 81 0 (D0 w)).2 p) := by
  intro Q h
  refine ev_go 100 [15] ?_
  refine e_M_readAll_go σ τ hk hlen hl hVV 81 0 (D0 w) _ .null (by omega) (by omega) (D0_dv w) ⟨((Ag.refl.row (by decide)).row (by decide)).row (by decide), fun j a b c => ?_⟩ ⟨rfl, rfl, rfl, fun j hj => absurd hj (Nat.not_lt_zero j), fun j hj => absurd hj (Nat.not_lt_zero j), fun j hj => absurd hj (Nat.not_lt_zero j), fun j hj => absurd hj (Nat.not_lt_zero j), fun j hj => absurd hj (Nat.not_lt_zero j)⟩ (fun σ2 p2 h1 h2 => h σ2 ⟨h1, p2, h2⟩)
  show upd (upd (upd (σ 67) 18 0) 19 0) 20 0 j = σ 67 j
  simp only [upd]
  rw [if_neg c, if_neg b, if_neg a]
theorem Rel.agm {σ σ' : xS} {τ : xL} (h : Rel σ τ) (hA : AgM σ σ') : Rel σ' τ := by
  have e : ∀ q, q ≠ 67 → q ≠ 79 → q ≠ 80 → q ≠ 81 → q ≠ 82 → q ≠ 83 → σ' q = σ q := fun q a b c d e f => hA.1 q (by simp [a, b, c, d, e, f])
  refine h.scr ⟨fun q q1 q2 => e q (by omega) (by omega) (by omega) (by omega) (by omega) (by omega), fun q q1 q2 => e q (by omega) (by omega) (by omega) (by omega) (by omega) (by omega), e 69 (by decide) (by decide) (by decide) (by decide) (by decide) (by decide), e 70 (by decide) (by decide) (by decide) (by decide) (by decide) (by decide), e 72 (by decide) (by decide) (by decide) (by decide) (by decide) (by decide), e 73 (by decide) (by decide) (by decide) (by decide) (by decide) (by decide), fun q q1 q2 => e q (by omega) (by omega) (by omega) (by omega) (by omega) (by omega), e 84 (by decide) (by decide) (by decide) (by decide) (by decide) (by decide), hA.2 10 (by decide) (by decide) (by decide), hA.2 14 (by decide) (by decide) (by decide), hA.2 17 (by decide) (by decide) (by decide)⟩ ?_
  obtain ⟨a1, a2, a3, a4, a5⟩ := h.2.2.2
  refine ⟨?_, ?_, fun f hf => ?_, a4, a5⟩
  · rw [e 0 (by decide) (by decide) (by decide) (by decide) (by decide) (by decide), hA.2 2 (by decide) (by decide) (by decide)]
    exact a1
  · rw [e 0 (by decide) (by decide) (by decide) (by decide) (by decide) (by decide), hA.2 0 (by decide) (by decide) (by decide)]
    exact a2
  · rw [e 48 (by decide) (by decide) (by decide) (by decide) (by decide) (by decide), e 68 (by decide) (by decide) (by decide) (by decide) (by decide) (by decide)]
    exact a3 f hf
theorem pair_fault (r : Int32) : Pair m_S_fault m_M_fault [.int r] := by
  intro σ τ hR
  refine ev_go 100 [] ?_
  refine e_H_isNumber10 σ τ r _ ?_
  rcases q_ix r 4 (by decide) with h0 | ⟨k, hk, rfl⟩
  · refine bn_f (xb0 (fun q => h0.elim q.1 q.2)) ?_
    refine ⟨rfl, ?_⟩
    refine ev_go 100 [] ?_
    refine e_M_textBar_bad σ τ r h0 _ ?_
    refine br_f (by decide) ?_
    exact ⟨rfl, rfl, ⟨_, rfl⟩, hR⟩
  refine bn_t (xb1 (in_text4 hk)) ?_
  refine e_H_isThere10 σ τ _ (q_in hk (by decide)) _ ?_
  rw [cl7 (by omega)]
  have hVV : ∀ i, i < 80 → σ (12 + k) i = σ 73 (80 * k + i) := (hR.2.1.2 k hk).2
  rcases hR.2.1.size hk with ⟨s1, s2⟩ | ⟨n, hn, s1, s2⟩
  · refine bn_f (xb0 (by rw [s1]; decide)) ?_
    refine e_S_refuse σ τ 1 in1 _ ?_
    refine ⟨rfl, ?_⟩
    refine ev_go 100 [] ?_
    refine e_M_textBar_no (c_ref σ 1) τ hk (by rw [Ag.cref 72 (by decide)]; exact s2) _ ?_
    refine br_f (by decide) ?_
    exact ⟨rfl, rfl, ⟨_, rfl⟩, hR.find (f := 1) (by decide)⟩
  refine bn_t (xb1 (by rw [s1]; exact nI_pos (by omega))) ?_
  refine ⟨18, 4, 12 + k, rfl, Or.inl rfl, q_in hk (by decide), by rw [cl7 (by omega)]; exact rf_texts k hk, ?_⟩
  refine ⟨4, rfl, q_in hk (by decide), ?_⟩
  rw [cl7 (by omega)]
  obtain ⟨w, hw, hrd⟩ := e_R_read σ τ hk hn s1
  refine hrd _ (fun σ1 h1 => ?_)
  refine ⟨rfl, ?_⟩
  have e72 : σ1 72 k = nI n := by rw [h1.1 72 (by decide)]; exact s2
  refine ev_go 100 [] ?_
  refine e_M_textBar_ok σ1 τ hk (by rw [e72]; exact nI_ne9 (by omega)) _ ?_
  refine br_t rfl ?_
  refine e_M_readAll σ1 τ hk e72 hn (V := σ (12 + k)) (fun i hi => by rw [h1.1 73 (by decide)]; exact hVV i hi) w _ (fun σ2 h2 => ?_)
  exact ⟨rfl, rfl, ⟨_, rfl⟩, (hR.ag h1.1 (by decide)).agm h2.1⟩
