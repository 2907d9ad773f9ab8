/-! ROWS AND TEXTS -/
def blk (f : Nat → Int32) (a n : Nat) (v : Int32) : Nat → Int32 := fun j => if a ≤ j ∧ j < a + n then v else f j
theorem blk_0 (f : Nat → Int32) (a : Nat) (v : Int32) : blk f a 0 v = f := by
  funext j
  simp only [blk]
  rw [if_neg (by omega)]
theorem blk_s (f : Nat → Int32) (a n : Nat) (v : Int32) : upd (blk f a n v) (a + n) v = blk f a (n + 1) v := by
  funext j
  by_cases h : j = a + n
  · subst h
    simp [upd, blk]
  · simp only [upd, blk, h, if_false]
    by_cases h2 : a ≤ j ∧ j < a + n
    · rw [if_pos h2, if_pos (by omega)]
    · rw [if_neg h2, if_neg (by omega)]
theorem e_M_rowBar_bad (σ : xS) (τ : xL) (r : Int32) (h0 : r < 0 ∨ nI 6 ≤ r) : Rn m_M_rowBar [.ref 67, .int r] σ τ (some (.int (-1))) σ τ := by
  intro Q h
  refine ev_go 100 [] ?_
  refine e_M_isRow σ τ r _ ?_
  refine bn_f (xb0 (fun q => h0.elim q.1 (fun z => q.2 ((q_5 r).mpr z)))) ?_
  exact h
theorem in_row {k : Nat} (h : k < 6) : ¬ nI k < 0 ∧ ¬ (5 : Int32) < nI k := ⟨nI_pos (by omega), fun q => nI_ge h (by decide) ((q_5 _).mp q)⟩
theorem in_text {k : Nat} (h : k < 4) : ¬ nI k < 0 ∧ ¬ (3 : Int32) < nI k := ⟨nI_pos (by omega), fun q => nI_ge h (by decide) ((q_3 _).mp q)⟩
theorem in_row6 {k : Nat} (h : k < 6) : ¬ nI k < 0 ∧ ¬ nI 6 ≤ nI k := ⟨nI_pos (by omega), nI_ge h (by decide)⟩
theorem in_text4 {k : Nat} (h : k < 4) : ¬ nI k < 0 ∧ ¬ nI 4 ≤ nI k := ⟨nI_pos (by omega), nI_ge h (by decide)⟩
theorem e_M_rowBar_no (σ : xS) (τ : xL) {k : Nat} (hk : k < 6) (h0 : σ 69 k = -9) : Rn m_M_rowBar [.ref 67, .int (nI k)] σ τ (some (.int (-3))) (m_fnd σ 1) τ := by
  intro Q h
  refine ev_go 100 [] ?_
  refine e_M_isRow σ τ _ _ ?_
  refine bn_t (xb1 (in_row hk)) ?_
  refine ⟨6, rfl, q_in hk (by decide), ?_⟩
  refine bn_f (by rw [nI_clamp (by omega)]; exact h0) ?_
  refine e_M_finds σ τ 1 (q_in (i := 1) (by decide) (by decide)) _ ?_
  exact h
theorem e_M_rowBar_ok (σ : xS) (τ : xL) {k : Nat} (hk : k < 6) (h0 : ¬ σ 69 k = -9) : Rn m_M_rowBar [.ref 67, .int (nI k)] σ τ (some (.int 0)) σ τ := by
  intro Q h
  refine ev_go 100 [] ?_
  refine e_M_isRow σ τ _ _ ?_
  refine bn_t (xb1 (in_row hk)) ?_
  refine ⟨6, rfl, q_in hk (by decide), ?_⟩
  refine bn_t (by rw [nI_clamp (by omega)]; exact h0) ?_
  exact h
theorem e_M_textBar_bad (σ : xS) (τ : xL) (r : Int32) (h0 : r < 0 ∨ nI 4 ≤ r) : Rn m_M_textBar [.ref 67, .int r] σ τ (some (.int (-1))) σ τ := by
  intro Q h
  refine ev_go 100 [] ?_
  refine e_M_isText σ τ r _ ?_
  refine bn_f (xb0 (fun q => h0.elim q.1 (fun z => q.2 ((q_3 r).mpr z)))) ?_
  exact h
theorem e_M_textBar_no (σ : xS) (τ : xL) {k : Nat} (hk : k < 4) (h0 : σ 72 k = -9) : Rn m_M_textBar [.ref 67, .int (nI k)] σ τ (some (.int (-3))) (m_fnd σ 1) τ := by
  intro Q h
  refine ev_go 100 [] ?_
  refine e_M_isText σ τ _ _ ?_
  refine bn_t (xb1 (in_text hk)) ?_
  refine ⟨4, rfl, q_in hk (by decide), ?_⟩
  refine bn_f (by rw [nI_clamp (by omega)]; exact h0) ?_
  refine e_M_finds σ τ 1 (q_in (i := 1) (by decide) (by decide)) _ ?_
  exact h
theorem e_M_textBar_ok (σ : xS) (τ : xL) {k : Nat} (hk : k < 4) (h0 : ¬ σ 72 k = -9) : Rn m_M_textBar [.ref 67, .int (nI k)] σ τ (some (.int 0)) σ τ := by
  intro Q h
  refine ev_go 100 [] ?_
  refine e_M_isText σ τ _ _ ?_
  refine bn_t (xb1 (in_text hk)) ?_
  refine ⟨4, rfl, q_in hk (by decide), ?_⟩
  refine bn_t (by rw [nI_clamp (by omega)]; exact h0) ?_
  exact h
/-- the model's row made -/
def m_row (σ : xS) (k : Nat) (n : Int32) : xS := x_row (x_row σ 69 (upd (σ 69) k n)) 70 (blk (σ 70) (40 * k) 40 0)
theorem e_M_row_ok (σ : xS) (τ : xL) {k : Nat} (hk : k < 6) {n : Int32} (h1 : n ≤ 40) (h0 : 0 ≤ n) : Rn m_M_row [.ref 67, .int (nI k), .int n] σ τ (some (.int n)) (m_row σ k n) τ := by
  intro Q h
  refine ev_go 100 [34] ?_
  refine e_M_isRow σ τ _ _ ?_
  refine br_f (xb1 (in_row hk)) ?_
  refine br_t h1 ?_
  refine br_t h0 ?_
  refine ⟨6, rfl, q_in hk (by decide), ?_⟩
  have := ev_iter (M := m_M_row) (pc := 34) (st := []) (g := x_g) (Q := Q) 40 (fun i => ([.ref 67, .int (nI k), .int n, .int (nI i)], x_row (x_row σ 69 (upd (σ 69) k n)) 70 (blk (σ 70) (40 * k) i 0), τ)) (fun i hi kk => ?_) ?_
  · dsimp only at this
    rw [blk_0, show x_row (x_row σ 69 (upd (σ 69) k n)) 70 (σ 70) = x_row σ 69 (upd (σ 69) k n) from x_row_same (x_row σ 69 (upd (σ 69) k n)) 70] at this
    show Ev m_M_row 34 [.ref 67, .int (nI k), .int n, .int 0] [] x_g (x_row σ 69 (upd (σ 69) (nI k).toNatClampNeg n)) τ Q
    rw [nI_clamp (by omega)]
    exact this
  · dsimp only at kk ⊢
    refine ev_go 100 [34] ?_
    refine br_f (nI_ge (b := 40) hi (by decide)) ?_
    have e : (40 : Int32) * nI k + nI i = nI (40 * k + i) := by rw [show (40 : Int32) = nI 40 from rfl, pk_mul, nI_add]
    refine ⟨240, rfl, by rw [e]; exact q_in (by omega) (by decide), ?_⟩
    show Ev m_M_row 34 [.ref 67, .int (nI k), .int n, .int (nI i + 1)] [] x_g (x_row (x_row (x_row σ 69 (upd (σ 69) k n)) 70 (blk (σ 70) (40 * k) i 0)) 70 (upd (blk (σ 70) (40 * k) i 0) ((40 : Int32) * nI k + nI i).toNatClampNeg 0)) τ Q
    rw [e, nI_clamp (by omega), nI_1, x_row_row, blk_s]
    exact kk
  · dsimp only
    refine ev_go 100 [34] ?_
    refine br_t (nI_le (a := 40) (Nat.le_refl 40) (by decide)) ?_
    exact h
def m_text (σ : xS) (k : Nat) (n : Int32) : xS := x_row (x_row σ 72 (upd (σ 72) k n)) 73 (blk (σ 73) (80 * k) 80 32)
theorem e_M_text_ok (σ : xS) (τ : xL) {k : Nat} (hk : k < 4) {n : Int32} (h1 : n ≤ 80) (h0 : 0 ≤ n) : Rn m_M_text [.ref 67, .int (nI k), .int n] σ τ (some (.int n)) (m_text σ k n) τ := by
  intro Q h
  refine ev_go 100 [34] ?_
  refine e_M_isText σ τ _ _ ?_
  refine br_f (xb1 (in_text hk)) ?_
  refine br_t h1 ?_
  refine br_t h0 ?_
  refine ⟨4, rfl, q_in hk (by decide), ?_⟩
  have := ev_iter (M := m_M_text) (pc := 34) (st := []) (g := x_g) (Q := Q) 80 (fun i => ([.ref 67, .int (nI k), .int n, .int (nI i)], x_row (x_row σ 72 (upd (σ 72) k n)) 73 (blk (σ 73) (80 * k) i 32), τ)) (fun i hi kk => ?_) ?_
  · dsimp only at this
    rw [blk_0, show x_row (x_row σ 72 (upd (σ 72) k n)) 73 (σ 73) = x_row σ 72 (upd (σ 72) k n) from x_row_same (x_row σ 72 (upd (σ 72) k n)) 73] at this
    show Ev m_M_text 34 [.ref 67, .int (nI k), .int n, .int 0] [] x_g (x_row σ 72 (upd (σ 72) (nI k).toNatClampNeg n)) τ Q
    rw [nI_clamp (by omega)]
    exact this
  · dsimp only at kk ⊢
    refine ev_go 100 [34] ?_
    refine br_f (nI_ge (b := 80) hi (by decide)) ?_
    have e : (80 : Int32) * nI k + nI i = nI (80 * k + i) := by rw [show (80 : Int32) = nI 80 from rfl, pk_mul, nI_add]
    refine ⟨320, rfl, by rw [e]; exact q_in (by omega) (by decide), ?_⟩
    show Ev m_M_text 34 [.ref 67, .int (nI k), .int n, .int (nI i + 1)] [] x_g (x_row (x_row (x_row σ 72 (upd (σ 72) k n)) 73 (blk (σ 73) (80 * k) i 32)) 73 (upd (blk (σ 73) (80 * k) i 32) ((80 : Int32) * nI k + nI i).toNatClampNeg 32)) τ Q
    rw [e, nI_clamp (by omega), nI_1, x_row_row, blk_s]
    exact kk
  · dsimp only
    refine ev_go 100 [34] ?_
    refine br_t (nI_le (a := 80) (Nat.le_refl 80) (by decide)) ?_
    exact h
/-- the class's row made -/
def c_row (σ : xS) (k : Nat) (n : Int32) : xS := x_row (x_row σ (3 + k) (fun j => if j < 40 then 0 else σ (3 + k) j)) 9 (upd (σ 9) k n)
theorem e_H_make_row (σ : xS) (τ : xL) {k : Nat} (hk : k < 6) (n : Int32) (hb : σ 1 2 = 0) : Rn m_H_make [.ref 1, .int (nI k), .int n] σ τ none (c_row σ k n) τ := by
  have := e_H_make1 σ τ (nI k) n (q_in hk (by decide)) hb
  rw [nI_clamp (by omega), x_row_ne (show 9 ≠ 3 + k by omega)] at this
  exact this
def c_text (σ : xS) (k : Nat) (n : Int32) : xS := x_row (x_row σ (12 + k) (fun j => if j < 80 then 32 else σ (12 + k) j)) 16 (upd (σ 16) k n)
theorem e_H_make_text (σ : xS) (τ : xL) {k : Nat} (hk : k < 4) (n : Int32) (hb : σ 10 2 = 32) : Rn m_H_make [.ref 10, .int (nI k), .int n] σ τ none (c_text σ k n) τ := by
  have := e_H_make10 σ τ (nI k) n (q_in hk (by decide)) hb
  rw [nI_clamp (by omega), x_row_ne (show 16 ≠ 12 + k by omega)] at this
  exact this
theorem RelR.made {σ : xS} (h : RelR σ) {k n : Nat} (hk : k < 6) (hn : n ≤ 40) : RelR (m_row (c_row σ k (nI n)) k (nI n)) := by
  refine ⟨?_, fun r hr => ⟨?_, fun i hi => ?_⟩⟩
  · simp only [m_row, c_row, x_row_ne (show 1 ≠ 70 by omega), x_row_ne (show 1 ≠ 69 by omega), x_row_ne (show 1 ≠ 9 by omega), x_row_ne (show 1 ≠ 3 + k by omega)]
    exact h.1
  · have e9 : m_row (c_row σ k (nI n)) k (nI n) 9 = upd (σ 9) k (nI n) := by
      simp only [m_row, c_row, x_row_ne (show 9 ≠ 70 by omega), x_row_ne (show 9 ≠ 69 by omega), x_row_eq]
    have e69 : m_row (c_row σ k (nI n)) k (nI n) 69 = upd (σ 69) k (nI n) := by
      simp only [m_row, c_row, x_row_ne (show 69 ≠ 70 by omega), x_row_ne (show 69 ≠ 9 by omega), x_row_ne (show 69 ≠ 3 + k by omega), x_row_eq]
    rw [e9, e69]
    by_cases e : r = k
    · subst e
      exact Or.inr ⟨n, hn, by simp [upd], by simp [upd]⟩
    · simp only [upd, e, if_false]
      exact (h.2 r hr).1
  · have e70 : m_row (c_row σ k (nI n)) k (nI n) 70 = blk (σ 70) (40 * k) 40 0 := by
      simp only [m_row, c_row, x_row_eq, x_row_ne (show 70 ≠ 69 by omega), x_row_ne (show 70 ≠ 9 by omega), x_row_ne (show 70 ≠ 3 + k by omega)]
    rw [e70]
    by_cases e : r = k
    · subst e
      have : m_row (c_row σ r (nI n)) r (nI n) (3 + r) = fun j => if j < 40 then 0 else σ (3 + r) j := by
        simp only [m_row, c_row, x_row_ne (show 3 + r ≠ 70 by omega), x_row_ne (show 3 + r ≠ 69 by omega), x_row_ne (show 3 + r ≠ 9 by omega), x_row_eq]
      rw [this]
      simp [blk, hi]
    · have : m_row (c_row σ k (nI n)) k (nI n) (3 + r) = σ (3 + r) := by
        simp only [m_row, c_row, x_row_ne (show 3 + r ≠ 70 by omega), x_row_ne (show 3 + r ≠ 69 by omega), x_row_ne (show 3 + r ≠ 9 by omega), x_row_ne (show 3 + r ≠ 3 + k by omega)]
      rw [this, (h.2 r hr).2 i hi]
      simp only [blk]
      rw [if_neg (by omega)]
theorem RelT.made {σ : xS} (h : RelT σ) {k n : Nat} (hk : k < 4) (hn : n ≤ 80) : RelT (m_text (c_text σ k (nI n)) k (nI n)) := by
  refine ⟨?_, fun r hr => ⟨?_, fun i hi => ?_⟩⟩
  · simp only [m_text, c_text, x_row_ne (show 10 ≠ 73 by omega), x_row_ne (show 10 ≠ 72 by omega), x_row_ne (show 10 ≠ 16 by omega), x_row_ne (show 10 ≠ 12 + k by omega)]
    exact h.1
  · have e9 : m_text (c_text σ k (nI n)) k (nI n) 16 = upd (σ 16) k (nI n) := by
      simp only [m_text, c_text, x_row_ne (show 16 ≠ 73 by omega), x_row_ne (show 16 ≠ 72 by omega), x_row_eq]
    have e69 : m_text (c_text σ k (nI n)) k (nI n) 72 = upd (σ 72) k (nI n) := by
      simp only [m_text, c_text, x_row_ne (show 72 ≠ 73 by omega), x_row_ne (show 72 ≠ 16 by omega), x_row_ne (show 72 ≠ 12 + k by omega), x_row_eq]
    rw [e9, e69]
    by_cases e : r = k
    · subst e
      exact Or.inr ⟨n, hn, by simp [upd], by simp [upd]⟩
    · simp only [upd, e, if_false]
      exact (h.2 r hr).1
  · have e70 : m_text (c_text σ k (nI n)) k (nI n) 73 = blk (σ 73) (80 * k) 80 32 := by
      simp only [m_text, c_text, x_row_eq, x_row_ne (show 73 ≠ 72 by omega), x_row_ne (show 73 ≠ 16 by omega), x_row_ne (show 73 ≠ 12 + k by omega)]
    rw [e70]
    by_cases e : r = k
    · subst e
      have : m_text (c_text σ r (nI n)) r (nI n) (12 + r) = fun j => if j < 80 then 32 else σ (12 + r) j := by
        simp only [m_text, c_text, x_row_ne (show 12 + r ≠ 73 by omega), x_row_ne (show 12 + r ≠ 72 by omega), x_row_ne (show 12 + r ≠ 16 by omega), x_row_eq]
      rw [this]
      simp [blk, hi]
    · have : m_text (c_text σ k (nI n)) k (nI n) (12 + r) = σ (12 + r) := by
        simp only [m_text, c_text, x_row_ne (show 12 + r ≠ 73 by omega), x_row_ne (show 12 + r ≠ 72 by omega), x_row_ne (show 12 + r ≠ 16 by omega), x_row_ne (show 12 + r ≠ 12 + k by omega)]
      rw [this, (h.2 r hr).2 i hi]
      simp only [blk]
      rw [if_neg (by omega)]
theorem Rel.row {σ : xS} {τ : xL} (h : Rel σ τ) {k n : Nat} (hk : k < 6) (hn : n ≤ 40) : Rel (m_row (c_row σ k (nI n)) k (nI n)) τ := by
  obtain ⟨h1, h2, h3, h4⟩ := h
  have e : ∀ q, q ≠ 70 → q ≠ 69 → q ≠ 9 → q ≠ 3 + k → m_row (c_row σ k (nI n)) k (nI n) q = σ q := fun q q1 q2 q3 q4 => by
    simp only [m_row, c_row, x_row_ne q1, x_row_ne q2, x_row_ne q3, x_row_ne q4]
  refine ⟨h1.made hk hn, h2.congr (by rw [e 10 (by omega) (by omega) (by omega) (by omega)]) (fun q q1 q2 => e q (by omega) (by omega) (by omega) (by omega)) (e 72 (by omega) (by omega) (by omega) (by omega)) (e 73 (by omega) (by omega) (by omega) (by omega)), h3.congr (fun q q1 q2 => e q (by omega) (by omega) (by omega) (by omega)) (fun q q1 q2 => e q (by omega) (by omega) (by omega) (by omega)) (by rw [e 67 (by omega) (by omega) (by omega) (by omega)]) (by rw [e 67 (by omega) (by omega) (by omega) (by omega)]) (by rw [e 67 (by omega) (by omega) (by omega) (by omega)]) (fun q q1 q2 => e q (by omega) (by omega) (by omega) (by omega)) (e 84 (by omega) (by omega) (by omega) (by omega)), ?_⟩
  unfold RelA
  rw [e 0 (by omega) (by omega) (by omega) (by omega), e 67 (by omega) (by omega) (by omega) (by omega), e 48 (by omega) (by omega) (by omega) (by omega), e 68 (by omega) (by omega) (by omega) (by omega)]
  exact h4
theorem Rel.text {σ : xS} {τ : xL} (h : Rel σ τ) {k n : Nat} (hk : k < 4) (hn : n ≤ 80) : Rel (m_text (c_text σ k (nI n)) k (nI n)) τ := by
  obtain ⟨h1, h2, h3, h4⟩ := h
  have e : ∀ q, q ≠ 73 → q ≠ 72 → q ≠ 16 → q ≠ 12 + k → m_text (c_text σ k (nI n)) k (nI n) q = σ q := fun q q1 q2 q3 q4 => by
    simp only [m_text, c_text, x_row_ne q1, x_row_ne q2, x_row_ne q3, x_row_ne q4]
  refine ⟨h1.congr (by rw [e 1 (by omega) (by omega) (by omega) (by omega)]) (fun q q1 q2 => e q (by omega) (by omega) (by omega) (by omega)) (e 69 (by omega) (by omega) (by omega) (by omega)) (e 70 (by omega) (by omega) (by omega) (by omega)), h2.made hk hn, h3.congr (fun q q1 q2 => e q (by omega) (by omega) (by omega) (by omega)) (fun q q1 q2 => e q (by omega) (by omega) (by omega) (by omega)) (by rw [e 67 (by omega) (by omega) (by omega) (by omega)]) (by rw [e 67 (by omega) (by omega) (by omega) (by omega)]) (by rw [e 67 (by omega) (by omega) (by omega) (by omega)]) (fun q q1 q2 => e q (by omega) (by omega) (by omega) (by omega)) (e 84 (by omega) (by omega) (by omega) (by omega)), ?_⟩
  unfold RelA
  rw [e 0 (by omega) (by omega) (by omega) (by omega), e 67 (by omega) (by omega) (by omega) (by omega), e 48 (by omega) (by omega) (by omega) (by omega), e 68 (by omega) (by omega) (by omega) (by omega)]
  exact h4
theorem in1 : vp_in 1 6 := q_in (i := 1) (by decide) (by decide)
theorem in2 : vp_in 2 6 := q_in (i := 2) (by decide) (by decide)
theorem in3 : vp_in 3 6 := q_in (i := 3) (by decide) (by decide)
theorem in4 : vp_in 4 6 := q_in (i := 4) (by decide) (by decide)
theorem in5 : vp_in 5 6 := q_in (i := 5) (by decide) (by decide)
theorem pair_row (r n : Int32) : Pair m_S_row m_M_row [.int r, .int n] := by
  intro σ τ hR
  refine ev_go 100 [] ?_
  refine e_H_isNumber1 σ τ r _ ?_
  rcases q_ix r 6 (by decide) with h0 | ⟨k, hk, rfl⟩
  · refine br_t (xb0 (fun q => h0.elim q.1 q.2)) ?_
    refine ⟨rfl, ?_⟩
    refine ev_go 100 [] ?_
    refine e_M_isRow σ τ r _ ?_
    refine br_t (xb0 (fun q => h0.elim q.1 (fun z => q.2 ((q_5 r).mpr z)))) ?_
    exact ⟨rfl, rfl, ⟨_, rfl⟩, hR⟩
  · refine br_f (xb1 (in_row6 hk)) ?_
    refine And.intro (fun h1 => ?_) (fun h1 => ?_)
    · refine And.intro (fun h2 => ?_) (fun h2 => ?_)
      · obtain ⟨j, hj, rfl⟩ := nI_of2 (M := 40) (n := 40) (by decide) (Int32.not_lt.mpr h2) h1
        refine e_H_make_row σ τ hk _ hR.1.1 _ ?_
        refine ⟨rfl, ?_⟩
        refine e_M_row_ok _ τ hk h1 h2 _ ?_
        exact ⟨rfl, rfl, ⟨_, rfl⟩, hR.row hk hj⟩
      · refine e_S_refuse σ τ 5 in5 _ ?_
        refine ⟨rfl, ?_⟩
        refine ev_go 100 [] ?_
        refine e_M_isRow _ τ _ _ ?_
        refine br_f (xb1 (in_row hk)) ?_
        refine br_t h1 ?_
        refine br_f h2 ?_
        refine e_M_finds _ τ 5 in5 _ ?_
        exact ⟨rfl, rfl, ⟨_, rfl⟩, hR.find (f := 5) (by decide)⟩
    · refine ⟨rfl, ?_⟩
      refine ev_go 100 [] ?_
      refine e_M_isRow _ τ _ _ ?_
      refine br_f (xb1 (in_row hk)) ?_
      refine br_f h1 ?_
      exact ⟨rfl, rfl, ⟨_, rfl⟩, hR⟩
theorem pair_text (r n : Int32) : Pair m_S_text m_M_text [.int r, .int n] := by
  intro σ τ hR
  refine ev_go 100 [] ?_
  refine e_H_isNumber10 σ τ r _ ?_
  rcases q_ix r 4 (by decide) with h0 | ⟨k, hk, rfl⟩
  · refine br_t (xb0 (fun q => h0.elim q.1 q.2)) ?_
    refine ⟨rfl, ?_⟩
    refine ev_go 100 [] ?_
    refine e_M_isText σ τ r _ ?_
    refine br_t (xb0 (fun q => h0.elim q.1 (fun z => q.2 ((q_3 r).mpr z)))) ?_
    exact ⟨rfl, rfl, ⟨_, rfl⟩, hR⟩
  · refine br_f (xb1 (in_text4 hk)) ?_
    refine And.intro (fun h1 => ?_) (fun h1 => ?_)
    · refine And.intro (fun h2 => ?_) (fun h2 => ?_)
      · obtain ⟨j, hj, rfl⟩ := nI_of2 (M := 80) (n := 80) (by decide) (Int32.not_lt.mpr h2) h1
        refine e_H_make_text σ τ hk _ hR.2.1.1 _ ?_
        refine ⟨rfl, ?_⟩
        refine e_M_text_ok _ τ hk h1 h2 _ ?_
        exact ⟨rfl, rfl, ⟨_, rfl⟩, hR.text hk hj⟩
      · refine e_S_refuse σ τ 5 in5 _ ?_
        refine ⟨rfl, ?_⟩
        refine ev_go 100 [] ?_
        refine e_M_isText _ τ _ _ ?_
        refine br_f (xb1 (in_text hk)) ?_
        refine br_t h1 ?_
        refine br_f h2 ?_
        refine e_M_finds _ τ 5 in5 _ ?_
        exact ⟨rfl, rfl, ⟨_, rfl⟩, hR.find (f := 5) (by decide)⟩
    · refine ⟨rfl, ?_⟩
      refine ev_go 100 [] ?_
      refine e_M_isText _ τ _ _ ?_
      refine br_f (xb1 (in_text hk)) ?_
      refine br_f h1 ?_
      exact ⟨rfl, rfl, ⟨_, rfl⟩, hR⟩
