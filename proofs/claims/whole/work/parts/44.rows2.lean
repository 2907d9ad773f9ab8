theorem Rel.rows {σ σ' : xS} {τ τ' : xL} (h : Rel σ τ) (hR : RelR σ') (h2 : ∀ q, 10 ≤ q → q ≤ 22 → σ' q = σ q) (h3 : ∀ q, 49 ≤ q → q ≤ 66 → σ' q = σ q) (h4 : ∀ q, 72 ≤ q → q ≤ 78 → σ' q = σ q) (h5 : σ' 84 = σ 84) (h6 : σ' 67 10 = σ 67 10) (h7 : σ' 67 14 = σ 67 14) (h8 : σ' 67 17 = σ 67 17) (hA : RelA σ' τ') : Rel σ' τ' := by
  obtain ⟨-, b, c, -⟩ := h
  exact ⟨hR, b.congr (by rw [h2 10 (by omega) (by omega)]) (fun q q1 q2 => h2 q (by omega) (by omega)) (h4 72 (by omega) (by omega)) (h4 73 (by omega) (by omega)), c.congr (fun q q1 q2 => h2 q (by omega) (by omega)) h3 h6 h7 h8 (fun q q1 q2 => h4 q (by omega) (by omega)) h5, hA⟩
theorem Rel.texts {σ σ' : xS} {τ τ' : xL} (h : Rel σ τ) (hT : RelT σ') (h2 : ∀ q, q ≤ 9 → σ' q = σ q) (h2b : ∀ q, 17 ≤ q → q ≤ 22 → σ' q = σ q) (h3 : ∀ q, 48 ≤ q → q ≤ 70 → σ' q = σ q) (h4 : ∀ q, 74 ≤ q → q ≤ 78 → σ' q = σ q) (h5 : σ' 84 = σ 84) (ht : τ' = τ) : Rel σ' τ' := by
  subst ht
  obtain ⟨a, -, c, d⟩ := h
  refine ⟨a.congr (by rw [h2 1 (by omega)]) (fun q q1 q2 => h2 q (by omega)) (h3 69 (by omega) (by omega)) (h3 70 (by omega) (by omega)), hT, c.congr h2b (fun q q1 q2 => h3 q (by omega) (by omega)) (by rw [h3 67 (by omega) (by omega)]) (by rw [h3 67 (by omega) (by omega)]) (by rw [h3 67 (by omega) (by omega)]) h4 h5, ?_⟩
  unfold RelA
  rw [h2 0 (by omega), h3 67 (by omega) (by omega), h3 48 (by omega) (by omega), h3 68 (by omega) (by omega)]
  exact d
/-- sizes of rows in the two -/
theorem RelR.size {σ : xS} (h : RelR σ) {k : Nat} (hk : k < 6) : (σ 9 k = -1 ∧ σ 69 k = -9) ∨ ∃ n, n ≤ 40 ∧ σ 9 k = nI n ∧ σ 69 k = nI n := (h.2 k hk).1
theorem RelT.size {σ : xS} (h : RelT σ) {k : Nat} (hk : k < 4) : (σ 16 k = -1 ∧ σ 72 k = -9) ∨ ∃ n, n ≤ 80 ∧ σ 16 k = nI n ∧ σ 72 k = nI n := (h.2 k hk).1
theorem nI_ne9 {n : Nat} (h : n < 2 ^ 31) : ¬ nI n = (-9 : Int32) := fun e => by
  have := congrArg Int32.toInt e
  rw [nI_toInt h, show ((-9 : Int32)).toInt = -9 from by decide] at this
  omega
theorem nI_ne1 {n : Nat} (h : n < 2 ^ 31) : ¬ nI n = (-1 : Int32) := fun e => by
  have := congrArg Int32.toInt e
  rw [nI_toInt h, show ((-1 : Int32)).toInt = -1 from by decide] at this
  omega
theorem q_pred {n : Nat} (hn : n < 2 ^ 30) (x : Int32) : nI n - 1 < x ↔ nI n ≤ x := by
  rw [Int32.lt_iff_toInt_lt, Int32.le_iff_toInt_le, show (1 : Int32) = nI 1 from rfl, pk_sub_toInt hn (by decide), nI_toInt (by omega)]
  omega
theorem e_S_tellPlace_bad (σ : xS) (τ : xL) (r i : Int32) (h0 : r < 0 ∨ nI 6 ≤ r) : Rn m_S_tellPlace [.ref 0, .int r, .int i] σ τ (some (.int (-1))) σ τ := by
  intro Q h
  refine ev_go 100 [] ?_
  refine e_H_isNumber1 σ τ r _ ?_
  refine bn_f (xb0 (fun q => h0.elim q.1 q.2)) ?_
  exact h
theorem e_S_tellPlace_no (σ : xS) (τ : xL) {k : Nat} (hk : k < 6) (i : Int32) (h0 : σ 9 k = -1) : Rn m_S_tellPlace [.ref 0, .int (nI k), .int i] σ τ (some (.int (-3))) (c_ref σ 1) τ := by
  intro Q h
  refine ev_go 100 [] ?_
  refine e_H_isNumber1 σ τ _ _ ?_
  refine bn_t (xb1 (in_row6 hk)) ?_
  refine e_H_isThere1 σ τ _ (q_in hk (by decide)) _ ?_
  refine bn_f (xb0 (fun q => q (by rw [nI_clamp (by omega), h0]; decide))) ?_
  refine e_S_refuse σ τ 1 in1 _ ?_
  exact h
theorem e_S_tellPlace_bey (σ : xS) (τ : xL) {k n : Nat} (hk : k < 6) (hn : n ≤ 40) (i : Int32) (h0 : σ 9 k = nI n) (hi : i < 0 ∨ nI n ≤ i) : Rn m_S_tellPlace [.ref 0, .int (nI k), .int i] σ τ (some (.int (-3))) (c_ref σ 2) τ := by
  intro Q h
  refine ev_go 100 [] ?_
  refine e_H_isNumber1 σ τ _ _ ?_
  refine bn_t (xb1 (in_row6 hk)) ?_
  refine e_H_isThere1 σ τ _ (q_in hk (by decide)) _ ?_
  refine bn_t (xb1 (by rw [nI_clamp (by omega), h0]; exact nI_pos (by omega))) ?_
  refine e_H_hasPlace1 σ τ _ i (q_in hk (by decide)) _ ?_
  refine bn_f (xb0 (fun q => by rw [nI_clamp (by omega), h0] at q; exact hi.elim q.1 q.2)) ?_
  refine e_S_refuse σ τ 2 in2 _ ?_
  exact h
theorem e_S_tellPlace_ok (σ : xS) (τ : xL) {k n j : Nat} (hk : k < 6) (hn : n ≤ 40) (h0 : σ 9 k = nI n) (hj : j < n) : Rn m_S_tellPlace [.ref 0, .int (nI k), .int (nI j)] σ τ (some (.int 1)) (c_told σ (σ (3 + k) j)) τ := by
  intro Q h
  refine ev_go 100 [] ?_
  refine e_H_isNumber1 σ τ _ _ ?_
  refine bn_t (xb1 (in_row6 hk)) ?_
  refine e_H_isThere1 σ τ _ (q_in hk (by decide)) _ ?_
  refine bn_t (xb1 (by rw [nI_clamp (by omega), h0]; exact nI_pos (by omega))) ?_
  refine e_H_hasPlace1 σ τ _ _ (q_in hk (by decide)) _ ?_
  refine bn_t (xb1 (by rw [nI_clamp (by omega), h0]; exact ⟨nI_pos (by omega), nI_ge hj (by omega)⟩)) ?_
  refine ⟨18, 6, 3 + k, rfl, Or.inl rfl, q_in hk (by decide), by rw [nI_clamp (by omega)]; exact rf_rows k hk, ?_⟩
  refine ⟨40, sh_rows k hk, q_in (by omega) (by decide), ?_⟩
  have e : (nI j).toNatClampNeg = j := nI_clamp (by omega)
  show Q (some (.int 1)) x_g (x_row σ 0 (upd (σ 0) 8 (σ (3 + k) (nI j).toNatClampNeg))) τ
  rw [e]
  exact h
theorem pair_at (r i : Int32) : Pair m_S_at m_M_at [.int r, .int i] := by
  intro σ τ hR
  refine ev_go 100 [] ?_
  rcases q_ix r 6 (by decide) with h0 | ⟨k, hk, rfl⟩
  · refine e_S_tellPlace_bad σ τ r i h0 _ ?_
    refine ⟨rfl, ?_⟩
    refine ev_go 100 [] ?_
    refine e_M_rowBar_bad σ τ r h0 _ ?_
    refine br_f (by decide) ?_
    exact ⟨rfl, rfl, ⟨_, rfl⟩, hR⟩
  · rcases hR.1.size hk with ⟨h1, h2⟩ | ⟨n, hn, h1, h2⟩
    · refine e_S_tellPlace_no σ τ hk i h1 _ ?_
      refine ⟨rfl, ?_⟩
      refine ev_go 100 [] ?_
      refine e_M_rowBar_no (c_ref σ 1) τ hk h2 _ ?_
      refine br_f (by decide) ?_
      exact ⟨rfl, rfl, ⟨_, rfl⟩, hR.find (f := 1) (by decide)⟩
    · rcases q_ix i n (by omega) with hi | ⟨j, hj, rfl⟩
      · refine e_S_tellPlace_bey σ τ hk hn i h1 hi _ ?_
        refine ⟨rfl, ?_⟩
        refine ev_go 100 [] ?_
        refine e_M_rowBar_ok (c_ref σ 2) τ hk (by show ¬ σ 69 k = -9; rw [h2]; exact nI_ne9 (by omega)) _ ?_
        refine br_t rfl ?_
        refine ⟨6, rfl, q_in hk (by decide), ?_⟩
        refine e_M_in _ τ i 0 _ _ ?_
        refine br_t (xb0 (fun q => ?_)) ?_
        · have q2 : ¬ (σ 69 (nI k).toNatClampNeg - 1) < i := q.2
          rw [nI_clamp (by omega), h2, q_pred (by omega)] at q2
          exact hi.elim q.1 q2
        refine e_M_finds _ τ 2 in2 _ ?_
        exact ⟨rfl, rfl, ⟨_, rfl⟩, hR.find (f := 2) (by decide)⟩
      · refine e_S_tellPlace_ok σ τ hk hn h1 hj _ ?_
        refine ⟨rfl, ?_⟩
        refine ev_go 100 [] ?_
        refine e_M_rowBar_ok (c_told σ (σ (3 + k) j)) τ hk (by show ¬ σ 69 k = -9; rw [h2]; exact nI_ne9 (by omega)) _ ?_
        refine br_t rfl ?_
        refine ⟨6, rfl, q_in hk (by decide), ?_⟩
        refine e_M_in _ τ _ 0 _ _ ?_
        refine br_f (xb1 ⟨nI_pos (by omega), ?_⟩) ?_
        · show ¬ (σ 69 (nI k).toNatClampNeg - 1) < nI j
          rw [nI_clamp (by omega), h2, q_pred (by omega)]
          exact nI_ge hj (by omega)
        have e : (40 : Int32) * nI k + nI j = nI (40 * k + j) := by rw [show (40 : Int32) = nI 40 from rfl, pk_mul, nI_add]
        refine ⟨240, rfl, by rw [e]; exact q_in (by omega) (by decide), ?_⟩
        refine e_M_tells _ τ _ _ _ ?_
        refine ⟨rfl, rfl, ⟨_, rfl⟩, ?_⟩
        show Rel (m_told (c_told σ (σ (3 + k) j)) (σ 70 ((40 : Int32) * nI k + nI j).toNatClampNeg)) τ
        rw [e, nI_clamp (by omega), ← (hR.1.2 k hk).2 j (by omega)]
        exact hR.told _
theorem RelR.set {σ σ' : xS} (h : RelR σ) {k j : Nat} (hk : k < 6) (hj : j < 40) {v : Int32} (h1 : σ' 1 2 = σ 1 2) (h2 : σ' 9 = σ 9) (h3 : σ' 69 = σ 69) (h4 : ∀ r, r < 6 → σ' (3 + r) = if r = k then upd (σ (3 + k)) j v else σ (3 + r)) (h5 : σ' 70 = upd (σ 70) (40 * k + j) v) : RelR σ' := by
  refine ⟨by rw [h1]; exact h.1, fun r hr => ⟨by rw [h2, h3]; exact (h.2 r hr).1, fun i hi => ?_⟩⟩
  rw [h4 r hr, h5]
  by_cases e : r = k
  · subst e
    rw [if_pos rfl]
    by_cases e2 : i = j
    · subst e2
      simp [upd]
    · simp only [upd, e2, if_false, show ¬ 40 * r + i = 40 * r + j by omega]
      exact (h.2 r hr).2 i hi
  · rw [if_neg e]
    simp only [upd, show ¬ 40 * r + i = 40 * k + j by omega, if_false]
    exact (h.2 r hr).2 i hi
theorem pair_lay (r i v : Int32) : Pair m_S_lay m_M_lay [.int r, .int i, .int v] := by
  intro σ τ hR
  refine ev_go 100 [] ?_
  rcases q_ix r 6 (by decide) with h0 | ⟨k, hk, rfl⟩
  · refine e_S_tellPlace_bad σ τ r i h0 _ ?_
    refine bn_t (by decide) ?_
    refine ⟨rfl, ?_⟩
    refine ev_go 100 [] ?_
    refine e_M_rowBar_bad σ τ r h0 _ ?_
    refine br_f (by decide) ?_
    exact ⟨rfl, rfl, ⟨_, rfl⟩, hR⟩
  · rcases hR.1.size hk with ⟨h1, h2⟩ | ⟨n, hn, h1, h2⟩
    · refine e_S_tellPlace_no σ τ hk i h1 _ ?_
      refine bn_t (by decide) ?_
      refine ⟨rfl, ?_⟩
      refine ev_go 100 [] ?_
      refine e_M_rowBar_no (c_ref σ 1) τ hk h2 _ ?_
      refine br_f (by decide) ?_
      exact ⟨rfl, rfl, ⟨_, rfl⟩, hR.find (f := 1) (by decide)⟩
    · rcases q_ix i n (by omega) with hi | ⟨j, hj, rfl⟩
      · refine e_S_tellPlace_bey σ τ hk hn i h1 hi _ ?_
        refine bn_t (by decide) ?_
        refine ⟨rfl, ?_⟩
        refine ev_go 100 [] ?_
        refine e_M_rowBar_ok (c_ref σ 2) τ hk (by show ¬ σ 69 k = -9; rw [h2]; exact nI_ne9 (by omega)) _ ?_
        refine br_t rfl ?_
        refine ⟨6, rfl, q_in hk (by decide), ?_⟩
        refine e_M_in _ τ i 0 _ _ ?_
        refine bn_f (xb0 (fun q => ?_)) ?_
        · have q2 : ¬ (σ 69 (nI k).toNatClampNeg - 1) < i := q.2
          rw [nI_clamp (by omega), h2, q_pred (by omega)] at q2
          exact hi.elim q.1 q2
        refine e_M_finds _ τ 2 in2 _ ?_
        exact ⟨rfl, rfl, ⟨_, rfl⟩, hR.find (f := 2) (by decide)⟩
      · refine e_S_tellPlace_ok σ τ hk hn h1 hj _ ?_
        refine bn_f rfl ?_
        refine ⟨18, 6, 3 + k, rfl, Or.inl rfl, q_in hk (by decide), by rw [nI_clamp (by omega)]; exact rf_rows k hk, ?_⟩
        refine ⟨40, sh_rows k hk, q_in (by omega) (by decide), ?_⟩
        refine ⟨rfl, ?_⟩
        refine ev_go 100 [] ?_
        have hx : ∀ q, q ≠ 0 → q ≠ 3 + k → x_row (c_told σ (σ (3 + k) j)) (3 + k) (upd (c_told σ (σ (3 + k) j) (3 + k)) (nI j).toNatClampNeg v) q = σ q := fun q q1 q2 => by
          rw [x_row_ne q2, c_told, x_row_ne q1]
        refine e_M_rowBar_ok _ τ hk (by rw [hx 69 (by omega) (by omega), h2]; exact nI_ne9 (by omega)) _ ?_
        refine br_t rfl ?_
        refine ⟨6, rfl, q_in hk (by decide), ?_⟩
        refine e_M_in _ τ _ 0 _ _ ?_
        refine bn_t (xb1 ⟨nI_pos (by omega), ?_⟩) ?_
        · rw [hx 69 (by omega) (by omega), nI_clamp (by omega), h2, q_pred (by omega)]
          exact nI_ge hj (by omega)
        have e : (40 : Int32) * nI k + nI j = nI (40 * k + j) := by rw [show (40 : Int32) = nI 40 from rfl, pk_mul, nI_add]
        refine ⟨240, rfl, by rw [e]; exact q_in (by omega) (by decide), ?_⟩
        refine ⟨240, rfl, by rw [e]; exact q_in (by omega) (by decide), ?_⟩
        refine e_M_tells _ τ _ _ _ ?_
        refine ⟨rfl, rfl, ⟨_, rfl⟩, ?_⟩
        rw [hx 70 (by omega) (by omega), e, nI_clamp (n := 40 * k + j) (by omega), ← (hR.1.2 k hk).2 j (by omega)]
        rw [nI_clamp (show j < 2 ^ 31 by omega), show c_told σ (σ (3 + k) j) (3 + k) = σ (3 + k) from x_row_ne (by omega)] at hx ⊢
        generalize hA : σ (3 + k) j = a at hx ⊢
        generalize hS : x_row (c_told σ a) (3 + k) (upd (σ (3 + k)) j v) = σ1 at hx ⊢
        have hz : ∀ q, q ≠ 67 → q ≠ 70 → x_row (x_row σ1 70 (upd (σ 70) (40 * k + j) v)) 67 (upd (x_row σ1 70 (upd (σ 70) (40 * k + j) v) 67) 2 a) q = σ1 q := fun q q1 q2 => by
          rw [x_row_ne q1, x_row_ne q2]
        have h67 : x_row (x_row σ1 70 (upd (σ 70) (40 * k + j) v)) 67 (upd (x_row σ1 70 (upd (σ 70) (40 * k + j) v) 67) 2 a) 67 = upd (σ 67) 2 a := by
          rw [x_row_eq, x_row_ne (by omega), hx 67 (by omega) (by omega)]
        have h0 : σ1 0 = upd (σ 0) 8 a := by
          rw [← hS, x_row_ne (by omega), c_told, x_row_eq]
        refine hR.rows (hR.1.set hk (show j < 40 by omega) (v := v) (by rw [hz 1 (by omega) (by omega), hx 1 (by omega) (by omega)]) (by rw [hz 9 (by omega) (by omega), hx 9 (by omega) (by omega)]) (by rw [hz 69 (by omega) (by omega), hx 69 (by omega) (by omega)]) (fun r hr => ?_) (by rw [x_row_ne (by omega), x_row_eq])) (fun q q1 q2 => by rw [hz q (by omega) (by omega), hx q (by omega) (by omega)]) (fun q q1 q2 => by rw [hz q (by omega) (by omega), hx q (by omega) (by omega)]) (fun q q1 q2 => by rw [hz q (by omega) (by omega), hx q (by omega) (by omega)]) (by rw [hz 84 (by omega) (by omega), hx 84 (by omega) (by omega)]) (by rw [h67]; rfl) (by rw [h67]; rfl) (by rw [h67]; rfl) ?_
        · rw [hz (3 + r) (by omega) (by omega)]
          by_cases e : r = k
          · subst e
            rw [← hS, x_row_eq, if_pos rfl]
          · rw [hx (3 + r) (by omega) (by omega), if_neg e]
        · obtain ⟨a1, a2, a3, a4, a5⟩ := hR.2.2.2
          refine ⟨?_, ?_, fun f hf => ?_, a4, a5⟩
          · rw [h67, hz 0 (by omega) (by omega), h0]
            simp [upd]
          · rw [h67, hz 0 (by omega) (by omega), h0]
            simp [upd, a2]
          · rw [hz 48 (by omega) (by omega), hx 48 (by omega) (by omega), hz 68 (by omega) (by omega), hx 68 (by omega) (by omega)]
            exact a3 f hf
