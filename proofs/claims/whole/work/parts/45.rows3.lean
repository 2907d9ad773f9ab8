theorem pair_tear (r : Int32) : Pair m_S_tear m_M_tear [.int r] := by
  intro σ τ hR
  refine ev_go 100 [] ?_
  refine e_H_isNumber1 σ τ r _ ?_
  rcases q_ix r 6 (by decide) with h0 | ⟨k, hk, rfl⟩
  · refine bn_f (xb0 (fun q => h0.elim q.1 q.2)) ?_
    refine ⟨rfl, ?_⟩
    refine ev_go 100 [] ?_
    refine e_M_rowBar_bad σ τ r h0 _ ?_
    refine br_f (by decide) ?_
    exact ⟨rfl, rfl, ⟨_, rfl⟩, hR⟩
  · refine bn_t (xb1 (in_row6 hk)) ?_
    refine e_H_isThere1 σ τ _ (q_in hk (by decide)) _ ?_
    rcases hR.1.size hk with ⟨h1, h2⟩ | ⟨n, hn, h1, h2⟩
    · refine bn_f (xb0 (fun q => q (by rw [nI_clamp (by omega), h1]; decide))) ?_
      refine e_S_refuse σ τ 1 in1 _ ?_
      refine ⟨rfl, ?_⟩
      refine ev_go 100 [] ?_
      refine e_M_rowBar_no (c_ref σ 1) τ hk h2 _ ?_
      refine br_f (by decide) ?_
      exact ⟨rfl, rfl, ⟨_, rfl⟩, hR.find (f := 1) (by decide)⟩
    · refine bn_t (xb1 (by rw [nI_clamp (by omega), h1]; exact nI_pos (by omega))) ?_
      refine ⟨6, rfl, q_in hk (by decide), ?_⟩
      refine ⟨rfl, ?_⟩
      refine ev_go 100 [] ?_
      refine e_M_rowBar_ok _ τ hk (by show ¬ σ 69 k = -9; rw [h2]; exact nI_ne9 (by omega)) _ ?_
      refine br_t rfl ?_
      refine ⟨6, rfl, q_in hk (by decide), ?_⟩
      refine ⟨rfl, rfl, ⟨_, rfl⟩, ?_⟩
      show Rel (x_row (x_row σ 9 (upd (σ 9) (nI k).toNatClampNeg (-1))) 69 (upd (σ 69) (nI k).toNatClampNeg (-9))) τ
      rw [nI_clamp (by omega)]
      have hz : ∀ q, q ≠ 9 → q ≠ 69 → x_row (x_row σ 9 (upd (σ 9) k (-1))) 69 (upd (σ 69) k (-9)) q = σ q := fun q q1 q2 => by
        rw [x_row_ne q2, x_row_ne q1]
      have h9 : x_row (x_row σ 9 (upd (σ 9) k (-1))) 69 (upd (σ 69) k (-9)) 9 = upd (σ 9) k (-1) := by rw [x_row_ne (by omega), x_row_eq]
      have h69 : x_row (x_row σ 9 (upd (σ 9) k (-1))) 69 (upd (σ 69) k (-9)) 69 = upd (σ 69) k (-9) := by rw [x_row_eq]
      refine hR.rows ⟨by rw [hz 1 (by omega) (by omega)]; exact hR.1.1, fun r hr => ⟨?_, fun i hi => ?_⟩⟩ (fun q q1 q2 => hz q (by omega) (by omega)) (fun q q1 q2 => hz q (by omega) (by omega)) (fun q q1 q2 => hz q (by omega) (by omega)) (hz 84 (by omega) (by omega)) (by rw [hz 67 (by omega) (by omega)]) (by rw [hz 67 (by omega) (by omega)]) (by rw [hz 67 (by omega) (by omega)]) ?_
      · rw [h9, h69]
        by_cases e : r = k
        · exact Or.inl ⟨by simp [upd, e], by simp [upd, e]⟩
        · simp only [upd, e, if_false]
          exact (hR.1.2 r hr).1
      · rw [hz (3 + r) (by omega) (by omega), hz 70 (by omega) (by omega)]
        exact (hR.1.2 r hr).2 i hi
      · unfold RelA
        rw [hz 0 (by omega) (by omega), hz 67 (by omega) (by omega), hz 48 (by omega) (by omega), hz 68 (by omega) (by omega)]
        exact hR.2.2.2
theorem RelT.set {σ σ' : xS} (h : RelT σ) {k j : Nat} (hk : k < 4) (hj : j < 80) {v : Int32} (h1 : σ' 10 2 = σ 10 2) (h2 : σ' 16 = σ 16) (h3 : σ' 72 = σ 72) (h4 : ∀ r, r < 4 → σ' (12 + r) = if r = k then upd (σ (12 + k)) j v else σ (12 + r)) (h5 : σ' 73 = upd (σ 73) (80 * k + j) v) : RelT σ' := by
  refine ⟨by rw [h1]; exact h.1, fun r hr => ⟨by rw [h2, h3]; exact (h.2 r hr).1, fun i hi => ?_⟩⟩
  rw [h4 r hr, h5]
  by_cases e : r = k
  · subst e
    rw [if_pos rfl]
    by_cases e2 : i = j
    · subst e2
      simp [upd]
    · simp only [upd, e2, if_false, show ¬ 80 * r + i = 80 * r + j by omega]
      exact (h.2 r hr).2 i hi
  · rw [if_neg e]
    simp only [upd, show ¬ 80 * r + i = 80 * k + j by omega, if_false]
    exact (h.2 r hr).2 i hi
theorem pair_put (r i v : Int32) : Pair m_S_put m_M_put [.int r, .int i, .int v] := by
  intro σ τ hR
  refine ev_go 100 [] ?_
  refine e_H_isNumber10 σ τ r _ ?_
  rcases q_ix r 4 (by decide) with h0 | ⟨k, hk, rfl⟩
  · refine bn_f (xb0 (fun q => h0.elim q.1 q.2)) ?_
    refine ⟨rfl, ?_⟩
    refine ev_go 100 [] ?_
    refine e_M_textBar_bad σ τ r h0 _ ?_
    refine br_f (by decide) ?_
    exact ⟨rfl, rfl, ⟨_, rfl⟩, hR⟩
  · refine bn_t (xb1 (in_text4 hk)) ?_
    refine e_H_isThere10 σ τ _ (q_in hk (by decide)) _ ?_
    rcases hR.2.1.size hk with ⟨h1, h2⟩ | ⟨n, hn, h1, h2⟩
    · refine bn_f (xb0 (fun q => q (by rw [nI_clamp (by omega), h1]; decide))) ?_
      refine e_S_refuse σ τ 1 in1 _ ?_
      refine ⟨rfl, ?_⟩
      refine ev_go 100 [] ?_
      refine e_M_textBar_no (c_ref σ 1) τ hk h2 _ ?_
      refine br_f (by decide) ?_
      exact ⟨rfl, rfl, ⟨_, rfl⟩, hR.find (f := 1) (by decide)⟩
    · refine bn_t (xb1 (by rw [nI_clamp (by omega), h1]; exact nI_pos (by omega))) ?_
      refine e_H_hasPlace10 σ τ _ _ (q_in hk (by decide)) _ ?_
      rcases q_ix i n (by omega) with hi | ⟨j, hj, rfl⟩
      · refine bn_f (xb0 (fun q => by rw [nI_clamp (by omega), h1] at q; exact hi.elim q.1 q.2)) ?_
        refine e_S_refuse σ τ 2 in2 _ ?_
        refine ⟨rfl, ?_⟩
        refine ev_go 100 [] ?_
        refine e_M_textBar_ok (c_ref σ 2) τ hk (by show ¬ σ 72 k = -9; rw [h2]; exact nI_ne9 (by omega)) _ ?_
        refine br_t rfl ?_
        refine ⟨4, rfl, q_in hk (by decide), ?_⟩
        refine e_M_in _ τ i 0 _ _ ?_
        refine bn_f (xb0 (fun q => ?_)) ?_
        · have q2 : ¬ (σ 72 (nI k).toNatClampNeg - 1) < i := q.2
          rw [nI_clamp (by omega), h2, q_pred (by omega)] at q2
          exact hi.elim q.1 q2
        refine e_M_finds _ τ 2 in2 _ ?_
        exact ⟨rfl, rfl, ⟨_, rfl⟩, hR.find (f := 2) (by decide)⟩
      · refine bn_t (xb1 (by rw [nI_clamp (by omega), h1]; exact ⟨nI_pos (by omega), nI_ge hj (by omega)⟩)) ?_
        refine ⟨18, 4, 12 + k, rfl, Or.inl rfl, q_in hk (by decide), by rw [nI_clamp (by omega)]; exact rf_texts k hk, ?_⟩
        refine ⟨80, sh_texts k hk, q_in (by omega) (by decide), ?_⟩
        refine ⟨18, 4, 12 + k, rfl, Or.inl rfl, q_in hk (by decide), by rw [nI_clamp (by omega)]; exact rf_texts k hk, ?_⟩
        refine ⟨80, sh_texts k hk, q_in (by omega) (by decide), ?_⟩
        refine ⟨rfl, ?_⟩
        refine ev_go 100 [] ?_
        have hx : ∀ q, q ≠ 12 + k → x_row σ (12 + k) (upd (σ (12 + k)) (nI j).toNatClampNeg v.toInt8.toInt32) q = σ q := fun q q2 => x_row_ne q2
        refine e_M_textBar_ok _ τ hk (by rw [hx 72 (by omega), h2]; exact nI_ne9 (by omega)) _ ?_
        refine br_t rfl ?_
        refine ⟨4, rfl, q_in hk (by decide), ?_⟩
        refine e_M_in _ τ _ 0 _ _ ?_
        refine bn_t (xb1 ⟨nI_pos (by omega), ?_⟩) ?_
        · rw [hx 72 (by omega), nI_clamp (by omega), h2, q_pred (by omega)]
          exact nI_ge hj (by omega)
        have e : (80 : Int32) * nI k + nI j = nI (80 * k + j) := by rw [show (80 : Int32) = nI 80 from rfl, pk_mul, nI_add]
        refine ⟨320, rfl, by rw [e]; exact q_in (by omega) (by decide), ?_⟩
        refine ⟨320, rfl, by rw [e]; exact q_in (by omega) (by decide), ?_⟩
        refine ⟨rfl, ?_, ⟨_, rfl⟩, ?_⟩
        · show some (Value.int (σ (12 + k) (nI j).toNatClampNeg + 1000)) = some (Value.int (1000 + x_row σ (12 + k) (upd (σ (12 + k)) (nI j).toNatClampNeg v.toInt8.toInt32) 73 ((80 : Int32) * nI k + nI j).toNatClampNeg))
          rw [hx 73 (by omega), e, nI_clamp (n := 80 * k + j) (by omega), nI_clamp (n := j) (by omega), ← (hR.2.1.2 k hk).2 j (by omega), Int32.add_comm]
        · show Rel (x_row (x_row σ (12 + k) (upd (σ (12 + k)) (nI j).toNatClampNeg v.toInt8.toInt32)) 73 (upd (x_row σ (12 + k) (upd (σ (12 + k)) (nI j).toNatClampNeg v.toInt8.toInt32) 73) ((80 : Int32) * nI k + nI j).toNatClampNeg v.toInt8.toInt32)) τ
          rw [hx 73 (by omega), e, nI_clamp (n := 80 * k + j) (by omega)]
          rw [nI_clamp (n := j) (by omega)] at hx ⊢
          generalize v.toInt8.toInt32 = w at hx ⊢
          have hz : ∀ q, q ≠ 12 + k → q ≠ 73 → x_row (x_row σ (12 + k) (upd (σ (12 + k)) j w)) 73 (upd (σ 73) (80 * k + j) w) q = σ q := fun q q1 q2 => by
            rw [x_row_ne q2, x_row_ne q1]
          refine hR.texts (hR.2.1.set hk (show j < 80 by omega) (v := w) (by rw [hz 10 (by omega) (by omega)]) (hz 16 (by omega) (by omega)) (hz 72 (by omega) (by omega)) (fun r hr => ?_) x_row_eq) (fun q q1 => hz q (by omega) (by omega)) (fun q q1 q2 => hz q (by omega) (by omega)) (fun q q1 q2 => hz q (by omega) (by omega)) (fun q q1 q2 => hz q (by omega) (by omega)) (hz 84 (by omega) (by omega)) rfl
          by_cases e : r = k
          · subst e
            rw [x_row_ne (by omega), x_row_eq, if_pos rfl]
          · rw [hz (12 + r) (by omega) (by omega), if_neg e]
theorem cpy_0 {α : Type} (f g : Nat → α) (sp dp : Nat) : va_cpy f g sp dp 0 = g := by
  funext j
  simp only [va_cpy]
  rw [if_neg (by omega)]
theorem cpy_s (f g : Nat → Int32) (sp dp n : Nat) : upd (va_cpy f g sp dp n) (dp + n) (f (sp + n)) = va_cpy f g sp dp (n + 1) := by
  funext j
  by_cases h : j = dp + n
  · subst h
    simp only [upd, va_cpy, if_true]
    rw [if_pos (by omega), show dp + n - dp = n by omega]
  · simp only [upd, va_cpy, h, if_false]
    by_cases h2 : dp ≤ j ∧ j < dp + n
    · rw [if_pos h2, if_pos (by omega)]
    · rw [if_neg h2, if_neg (by omega)]
theorem e_H_hasPlaces (σ : xS) (τ : xL) {k : Nat} (hk : k < 6) (i n : Int32) : Rn m_H_hasPlaces [.ref 1, .int (nI k), .int i, .int n] σ τ (some (.int (x_b (¬ i < 0 ∧ ¬ σ 9 k < n ∧ ¬ (σ 9 k - n) < i)))) σ τ := by
  intro Q h
  refine ev_go 100 [] ?_
  have e : (nI k).toNatClampNeg = k := nI_clamp (by omega)
  refine And.intro (fun h1 => ?_) (fun h1 => ?_)
  · rw [x_b_f (fun q => q.1 h1)] at h
    exact ⟨Or.inl rfl, h⟩
  · refine ⟨6, rfl, q_in hk (by decide), ?_⟩
    refine And.intro (fun h2 => ?_) (fun h2 => ?_)
    · rw [e] at h2
      rw [x_b_f (fun q => q.2.1 h2)] at h
      exact ⟨Or.inl rfl, h⟩
    · rw [e] at h2
      refine ⟨6, rfl, q_in hk (by decide), ?_⟩
      refine And.intro (fun h3 => ?_) (fun h3 => ?_)
      · rw [e] at h3
        rw [x_b_f (fun q => q.2.2 h3)] at h
        exact ⟨Or.inl rfl, h⟩
      · rw [e] at h3
        rw [x_b_t ⟨h1, h2, h3⟩] at h
        exact ⟨Or.inr rfl, h⟩
/-- places i .. i + n - 1 of a row of size s -/
theorem q_places {s : Nat} (hs : s ≤ 40) (i n : Int32) (hn : ¬ n < 0) : (¬ i < 0 ∧ ¬ nI s < n ∧ ¬ (nI s - n) < i) ↔ ∃ a b : Nat, i = nI a ∧ n = nI b ∧ a + b ≤ s := by
  obtain ⟨b, hb, rfl⟩ := nI_of hn
  constructor
  · rintro ⟨h1, h2, h3⟩
    obtain ⟨a, ha, rfl⟩ := nI_of h1
    have hbs : b ≤ s := by
      rcases Nat.lt_or_ge s b with q | q
      · exact absurd (nI_lt q hb) h2
      · exact q
    rw [pk_sub hbs] at h3
    refine ⟨a, b, rfl, rfl, ?_⟩
    rcases Nat.lt_or_ge (s - b) a with q | q
    · exact absurd (nI_lt q ha) h3
    · omega
  · rintro ⟨a, b', rfl, hb', h⟩
    have hbb : b = b' ∨ 2 ^ 31 ≤ b' := by
      rcases Nat.lt_or_ge b' (2 ^ 31) with q | q
      · exact Or.inl ((nI_eq hb q).mp hb')
      · exact Or.inr q
    have hbb : b = b' := by omega
    subst hbb
    exact ⟨nI_pos (by omega), nI_nlt (by omega) (by omega), by rw [pk_sub (by omega)]; exact nI_nlt (by omega) (by omega)⟩
