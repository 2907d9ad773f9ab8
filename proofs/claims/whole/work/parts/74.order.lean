/-! ROWS THAT ARE ORDERS -/
def gd (V : Nat → Int32) (n i : Nat) : Prop := ∃ j, j < n ∧ V i = nI j ∧ ∀ x, x < i → V x ≠ nI j
/-- those seen in the first i places -/
def sf (V : Nat → Int32) (i : Nat) : Nat → Bool := fun j => anb (fun x => decide (V x = nI j)) i
theorem sf_s {V : Nat → Int32} {i n j j' : Nat} (h7 : n ≤ 7) (hj : j < n) (hj' : j' < n) (e : V i = nI j) : sf V (i + 1) j' = (sf V i j' || j' == j) := by
  show (anb (fun x => decide (V x = nI j')) i || decide (V i = nI j')) = _
  refine or_r ?_
  rw [e]
  by_cases z : j' = j
  · simp [z]
  · rw [decide_eq_false (fun q => z ((q_eq (by omega) (by omega)).mp q).symm), show (j' == j) = false from beq_eq_false_iff_ne.mpr z]
theorem sf_no {V : Nat → Int32} {i j : Nat} (h : ∀ x, x < i → V x ≠ nI j) : sf V i j = false := anb_no.mpr (fun x hx => decide_eq_false (h x hx))
theorem sf_yes {V : Nat → Int32} {i j : Nat} (h : sf V i j = true) : ∃ x, x < i ∧ V x = nI j := by
  obtain ⟨x, hx, e⟩ := anb_iff.mp h
  exact ⟨x, hx, of_decide_eq_true e⟩
theorem sf_cnt {V : Nat → Int32} {n : Nat} (h7 : n ≤ 7) (h : ∀ t, t < n → gd V n t) : ∀ i, i ≤ n → cnt (sf V i) n = i
  | 0, _ => cnt_zero n (fun j _ => rfl)
  | i + 1, hi => by
    have ih := sf_cnt h7 h i (by omega)
    obtain ⟨j, hj, e, hn⟩ := h i (by omega)
    have hf := sf_no hn
    have key : ∀ m, m ≤ n → cnt (sf V (i + 1)) m = cnt (sf V i) m + (if j < m then 1 else 0) := by
      intro m
      induction m with
      | zero => intro _; rfl
      | succ m ihm =>
        intro hm
        have ihm := ihm (by omega)
        simp only [cnt]
        rw [ihm, sf_s h7 hj (by omega) e]
        by_cases z : m = j
        · subst z
          simp [hf]
        · rw [show (m == j) = false from beq_eq_false_iff_ne.mpr z, Bool.or_false]
          by_cases z2 : j < m
          · rw [if_pos z2, if_pos (c := j < m + 1) (by omega)]
            omega
          · rw [if_neg z2, if_neg (c := j < m + 1) (by omega)]
            omega
    rw [key n (Nat.le_refl n), ih, if_pos hj]
theorem cnt_full {f : Nat → Bool} : ∀ {n : Nat}, cnt f n = n → ∀ i, i < n → f i = true
  | 0, _, i, hi => absurd hi (Nat.not_lt_zero i)
  | n + 1, h, i, hi => by
    have := cnt_le f n
    simp only [cnt] at h
    by_cases hf : f n = true
    · rw [if_pos hf] at h
      by_cases e : i = n
      · rw [e]; exact hf
      · exact cnt_full (n := n) (by omega) i (by omega)
    · rw [if_neg hf] at h
      omega
/-- where one stands in a row -/
def ps (V : Nat → Int32) (n j : Nat) : Nat := fi (fun x => decide (V x = nI j)) n
theorem ps_ok {V : Nat → Int32} {n : Nat} (h7 : n ≤ 7) (h : ∀ t, t < n → gd V n t) {j : Nat} (hj : j < n) : ps V n j < n ∧ V (ps V n j) = nI j ∧ ∀ x, x < ps V n j → V x ≠ nI j := by
  have := cnt_full (sf_cnt h7 h n (Nat.le_refl n)) j hj
  obtain ⟨a, b, c⟩ := fi_ok (f := fun x => decide (V x = nI j)) (n := n) this
  exact ⟨a, of_decide_eq_true b, fun x hx => of_decide_eq_false (c x hx)⟩
theorem sf7 (V : Nat → Int32) (i : Nat) {n : Nat} (h7 : n ≤ 7) : bs (sf V i) n < 2 ^ 31 := b31 h7
theorem sf_bit {V : Nat → Int32} {i n j : Nat} (hj : j < n) : (bs (sf V i) n).testBit j = sf V i j := by rw [bs_bit]; simp [hj]
theorem sf_or {V : Nat → Int32} {i n j : Nat} (h7 : n ≤ 7) (hj : j < n) (e : V i = nI j) : bs (sf V i) n ||| 2 ^ j = bs (sf V (i + 1)) n := by
  rw [bs_or hj]
  exact bs_ext (fun j' hj' => (sf_s h7 hj hj' e).symm)
/-- the class: a row held against the tracks -/
theorem e_S_findingOfOrder_go (σ : xS) (τ : xL) {P : xP} (hP : PC σ 17 P) (hV : PV P) {k : Nat} (hk : k < 6) {V : Nat → Int32} (hVV : V = σ (3 + k)) {t : Nat} (ht : t ≤ pn P) (hg : ∀ i, i < t → gd V (pn P) i) {Q : xQ} (kend : ∀ u : Value, Ev m_S_findingOfOrder 38 [.ref 0, .int (nI k), .int (nI (bs (sf V t) (pn P))), .int (nI t), u] [] x_g σ τ Q) (hs : σ 9 k = nI (pn P)) : Ev m_S_findingOfOrder 0 (x_loc [.ref 0, .int (nI k)] m_S_findingOfOrder.2.2.1) [] x_g σ τ Q := by
  have h7 := hV.1
  refine ev_go 100 [38] ?_
  refine e_H_isThere1 σ τ _ (q_in hk (by decide)) _ ?_
  rw [cl7 (by omega), hs]
  refine bn_t (xb1 (nI_pos (by omega))) ?_
  refine ⟨6, rfl, q_in hk (by decide), ?_⟩
  rw [cl7 (by omega), hs]
  refine br_t (by rw [hP.1]) ?_
  have e0 : bs (sf V 0) (pn P) = 0 := bs_0
  have := ev_lj (α := Value) (M := m_S_findingOfOrder) (pc := 38) (st := []) (g := x_g) (Q := Q) (τ := τ) t (fun i u => [.ref 0, .int (nI k), .int (nI (bs (sf V i) (pn P))), .int (nI i), u]) (fun _ σ' => σ' = σ) (fun i hi u σ1 hI kk => ?_) (fun u σ1 hI => ?_) .null σ rfl
  · rw [e0] at this
    exact this
  · subst hI
    obtain ⟨j, hj, e, hn⟩ := hg i hi
    refine ev_go 100 [38] ?_
    refine br_f (by rw [hP.1]; exact nI_ge (by omega) (by omega)) ?_
    refine ⟨18, 6, 3 + k, rfl, Or.inl rfl, q_in hk (by decide), by rw [cl7 (by omega)]; exact rf_rows k hk, ?_⟩
    refine ⟨40, sh_rows k hk, q_in (by omega) (by decide), ?_⟩
    rw [cl7 (by omega), ← hVV, e]
    refine e_P_isTrack σ1 τ _ _ ?_
    refine br_f (xb1 ⟨nI_pos (by omega), by rw [hP.1]; exact nI_ge hj (by omega)⟩) ?_
    refine e_S_has σ1 τ (sf7 V i h7) (by omega) _ ?_
    rw [sf_bit hj, sf_no hn]
    refine br_t (xb0 (by decide)) ?_
    show Ev m_S_findingOfOrder 38 [.ref 0, .int (nI k), .int (nI (bs (sf V i) (pn P)) ||| ((1 : Int32) <<< (nI j &&& 31))), .int (nI i + 1), .int (nI j)] [] x_g σ1 τ Q
    rw [q_shl1 (by omega), q_or, sf_or h7 hj e, nI_1]
    exact kk _ σ1 rfl
  · subst hI
    exact kend u
theorem e_S_findingOfOrder_ok (σ : xS) (τ : xL) {P : xP} (hP : PC σ 17 P) (hV : PV P) {k : Nat} (hk : k < 6) (hs : σ 9 k = nI (pn P)) (hg : ∀ i, i < pn P → gd (σ (3 + k)) (pn P) i) : Rn m_S_findingOfOrder [.ref 0, .int (nI k)] σ τ (some (.int 0)) σ τ := by
  intro Q h
  have h7 := hV.1
  refine e_S_findingOfOrder_go σ τ hP hV hk rfl (Nat.le_refl _) hg (fun u => ?_) hs
  refine ev_go 100 [] ?_
  refine br_t (by rw [hP.1]; exact nI_le (Nat.le_refl _) (by omega)) ?_
  exact h
theorem gd_bad {V : Nat → Int32} {n t : Nat} (h7 : n ≤ 7) (h : ¬ gd V n t) : ¬ (¬ V t < 0 ∧ ¬ nI n ≤ V t) ∨ ∃ j, j < n ∧ V t = nI j ∧ sf V t j = true := by
  by_cases h1 : ¬ V t < 0 ∧ ¬ nI n ≤ V t
  · obtain ⟨j, hj, e⟩ := (q_trk h7 _).mp h1
    refine Or.inr ⟨j, hj, e, ?_⟩
    cases hs : sf V t j with
    | true => rfl
    | false =>
      refine absurd ⟨j, hj, e, fun x hx z => ?_⟩ h
      exact absurd (anb_no.mp hs x hx) (by simp [z])
  · exact Or.inl h1
theorem e_S_findingOfOrder_un (σ : xS) (τ : xL) {P : xP} (hP : PC σ 17 P) (hV : PV P) {k : Nat} (hk : k < 6) (hs : σ 9 k = nI (pn P)) {t : Nat} (ht : t < pn P) (hg : ∀ i, i < t → gd (σ (3 + k)) (pn P) i) (hb : ¬ gd (σ (3 + k)) (pn P) t) : Rn m_S_findingOfOrder [.ref 0, .int (nI k)] σ τ (some (.int 3)) σ τ := by
  intro Q h
  have h7 := hV.1
  refine e_S_findingOfOrder_go σ τ hP hV hk rfl (Nat.le_of_lt ht) hg (fun u => ?_) hs
  refine ev_go 100 [] ?_
  refine br_f (by rw [hP.1]; exact nI_ge ht (by omega)) ?_
  refine ⟨18, 6, 3 + k, rfl, Or.inl rfl, q_in hk (by decide), by rw [cl7 (by omega)]; exact rf_rows k hk, ?_⟩
  refine ⟨40, sh_rows k hk, q_in (by omega) (by decide), ?_⟩
  rw [cl7 (by omega)]
  refine e_P_isTrack σ τ _ _ ?_
  rw [hP.1]
  rcases gd_bad h7 hb with h1 | ⟨j, hj, e, h2⟩
  · refine br_t (xb0 h1) ?_
    exact h
  · rw [e]
    refine br_f (xb1 ⟨nI_pos (by omega), nI_ge hj (by omega)⟩) ?_
    refine e_S_has σ τ (sf7 _ t h7) (by omega) _ ?_
    rw [sf_bit hj, h2]
    refine br_f (xb1 rfl) ?_
    exact h
theorem e_S_findingOfOrder_no (σ : xS) (τ : xL) {k : Nat} (hk : k < 6) (hs : σ 9 k = -1) : Rn m_S_findingOfOrder [.ref 0, .int (nI k)] σ τ (some (.int 1)) σ τ := by
  intro Q h
  refine ev_go 100 [] ?_
  refine e_H_isThere1 σ τ _ (q_in hk (by decide)) _ ?_
  rw [cl7 (by omega), hs]
  refine bn_f (xb0 (by decide)) ?_
  exact h
theorem e_S_findingOfOrder_sz (σ : xS) (τ : xL) {P : xP} (hP : PC σ 17 P) (hV : PV P) {k n : Nat} (hk : k < 6) (hn : n ≤ 40) (hs : σ 9 k = nI n) (hne : ¬ n = pn P) : Rn m_S_findingOfOrder [.ref 0, .int (nI k)] σ τ (some (.int 5)) σ τ := by
  intro Q h
  have h7 := hV.1
  refine ev_go 100 [] ?_
  refine e_H_isThere1 σ τ _ (q_in hk (by decide)) _ ?_
  rw [cl7 (by omega), hs]
  refine bn_t (xb1 (nI_pos (by omega))) ?_
  refine ⟨6, rfl, q_in hk (by decide), ?_⟩
  rw [cl7 (by omega), hs]
  refine br_f (by rw [hP.1]; exact fun z => hne ((q_eq (by omega) (by omega)).mp z)) ?_
  exact h
/-- the model: likewise, with the places -/
theorem e_M_orderBar_go (σ : xS) (τ : xL) {P : xP} (hP : PM σ P) (hV : PV P) {k : Nat} (hk : k < 6) {V : Nat → Int32} (hVV : ∀ i, i < 40 → V i = σ 70 (40 * k + i)) {t : Nat} (ht : t ≤ pn P) (hg : ∀ i, i < t → gd V (pn P) i) {Q : xQ} (kend : ∀ (u : Value) (σ' : xS), Ag [88] σ σ' → (∀ x j, x < t → j < pn P → V x = nI j → σ' 88 j = nI x) → Ev m_M_orderBar 40 [.ref 67, .int (nI k), .int (nI (bs (sf V t) (pn P))), .int (nI t), u] [] x_g σ' τ Q) (hs : σ 69 k = nI (pn P)) : Ev m_M_orderBar 0 (x_loc [.ref 67, .int (nI k)] m_M_orderBar.2.2.1) [] x_g σ τ Q := by
  have h7 := hV.1
  refine ev_go 100 [40] ?_
  refine ⟨6, rfl, q_in hk (by decide), ?_⟩
  rw [cl7 (by omega), hs]
  refine bn_t (nI_ne9 (by omega)) ?_
  refine ⟨6, rfl, q_in hk (by decide), ?_⟩
  rw [cl7 (by omega), hs]
  refine br_t (by rw [hP.1]) ?_
  have e0 : bs (sf V 0) (pn P) = 0 := bs_0
  have := ev_lj (α := Value) (M := m_M_orderBar) (pc := 40) (st := []) (g := x_g) (Q := Q) (τ := τ) t (fun i u => [.ref 67, .int (nI k), .int (nI (bs (sf V i) (pn P))), .int (nI i), u]) (fun i σ' => Ag [88] σ σ' ∧ (∀ x j, x < i → j < pn P → V x = nI j → σ' 88 j = nI x)) (fun i hi u σ1 hI kk => ?_) (fun u σ1 hI => ?_) .null σ ⟨Ag.refl, fun x j hx => absurd hx (Nat.not_lt_zero x)⟩
  · rw [e0] at this
    exact this
  · obtain ⟨hA, hI⟩ := hI
    have hP1 := hP.ag hA (by decide)
    obtain ⟨j, hj, e, hn⟩ := hg i hi
    refine ev_go 100 [40] ?_
    refine br_f (by rw [hP1.1]; exact nI_ge (by omega) (by omega)) ?_
    refine ⟨240, rfl, by rw [e40]; exact q_in (by omega) (by decide), ?_⟩
    rw [e40, cl7 (by omega), hA 70 (by decide), ← hVV i (by omega), e]
    refine e_M_isTrack σ1 τ hP1 hV _ _ ?_
    refine br_f (xb1 ⟨nI_pos (by omega), nI_ge hj (by omega)⟩) ?_
    refine e_M_has σ1 τ (sf7 V i h7) (by omega) _ ?_
    rw [sf_bit hj, sf_no hn]
    refine br_t (xb0 (by decide)) ?_
    refine ⟨7, rfl, q_in (by omega) (by decide), ?_⟩
    show Ev m_M_orderBar 40 [.ref 67, .int (nI k), .int (nI (bs (sf V i) (pn P)) ||| ((1 : Int32) <<< (nI j &&& 31))), .int (nI i + 1), .int (nI j)] [] x_g (x_row σ1 88 (upd (σ1 88) (nI j).toNatClampNeg (nI i))) τ Q
    rw [q_shl1 (by omega), q_or, sf_or h7 hj e, nI_1, cl7 (by omega)]
    refine kk _ _ ⟨hA.row (by decide), fun x j' hx hj' ex => ?_⟩
    rw [rowput]
    by_cases z : x = i
    · subst z
      have : j' = j := (q_eq (by omega) (by omega)).mp (ex.symm.trans e)
      rw [if_pos this]
    · have : ¬ j' = j := fun q => hn x (by omega) (by rw [← q]; exact ex)
      rw [if_neg this]
      exact hI x j' (by omega) hj' ex
  · exact kend u σ1 hI.1 hI.2
theorem e_M_orderBar_ok (σ : xS) (τ : xL) {P : xP} (hP : PM σ P) (hV : PV P) {k : Nat} (hk : k < 6) {V : Nat → Int32} (hVV : ∀ i, i < 40 → V i = σ 70 (40 * k + i)) (hs : σ 69 k = nI (pn P)) (hg : ∀ i, i < pn P → gd V (pn P) i) : Rs m_M_orderBar [.ref 67, .int (nI k)] σ τ (some (.int 0)) (fun σ' => Ag [88] σ σ' ∧ ∀ j, j < pn P → σ' 88 j = nI (ps V (pn P) j)) := by
  intro Q h
  have h7 := hV.1
  refine e_M_orderBar_go σ τ hP hV hk hVV (Nat.le_refl _) hg (fun u σ' hA hI => ?_) hs
  have hP1 := hP.ag hA (by decide)
  refine ev_go 100 [] ?_
  refine br_t (by rw [hP1.1]; exact nI_le (Nat.le_refl _) (by omega)) ?_
  refine h _ ⟨hA, fun j hj => ?_⟩
  obtain ⟨a, b, -⟩ := ps_ok h7 hg hj
  exact hI _ j a hj b
theorem e_M_orderBar_un (σ : xS) (τ : xL) {P : xP} (hP : PM σ P) (hV : PV P) {k : Nat} (hk : k < 6) {V : Nat → Int32} (hVV : ∀ i, i < 40 → V i = σ 70 (40 * k + i)) (hs : σ 69 k = nI (pn P)) {t : Nat} (ht : t < pn P) (hg : ∀ i, i < t → gd V (pn P) i) (hb : ¬ gd V (pn P) t) : Rs m_M_orderBar [.ref 67, .int (nI k)] σ τ (some (.int (-3))) (fun σ' => ∃ σ1, Ag [88] σ σ1 ∧ σ' = m_fnd σ1 (nI 3)) := by
  intro Q h
  have h7 := hV.1
  refine e_M_orderBar_go σ τ hP hV hk hVV (Nat.le_of_lt ht) hg (fun u σ' hA hI => ?_) hs
  have hP1 := hP.ag hA (by decide)
  refine ev_go 100 [] ?_
  refine br_f (by rw [hP1.1]; exact nI_ge ht (by omega)) ?_
  refine ⟨240, rfl, by rw [e40]; exact q_in (by omega) (by decide), ?_⟩
  rw [e40, cl7 (by omega), hA 70 (by decide), ← hVV t (by omega)]
  refine e_M_isTrack σ' τ hP1 hV _ _ ?_
  rcases gd_bad h7 hb with h1 | ⟨j, hj, e, h2⟩
  · refine br_t (xb0 h1) ?_
    refine e_M_finds σ' τ 3 in3 _ ?_
    exact h _ ⟨σ', hA, rfl⟩
  · rw [e]
    refine br_f (xb1 ⟨nI_pos (by omega), nI_ge hj (by omega)⟩) ?_
    refine e_M_has σ' τ (sf7 _ t h7) (by omega) _ ?_
    rw [sf_bit hj, h2]
    refine br_f (xb1 rfl) ?_
    refine e_M_finds σ' τ 3 in3 _ ?_
    exact h _ ⟨σ', hA, rfl⟩
theorem e_M_orderBar_no (σ : xS) (τ : xL) {k : Nat} (hk : k < 6) (hs : σ 69 k = -9) : Rn m_M_orderBar [.ref 67, .int (nI k)] σ τ (some (.int (-3))) (m_fnd σ (nI 1)) τ := by
  intro Q h
  refine ev_go 100 [] ?_
  refine ⟨6, rfl, q_in hk (by decide), ?_⟩
  rw [cl7 (by omega), hs]
  refine bn_f rfl ?_
  refine e_M_finds σ τ 1 in1 _ ?_
  exact h
theorem e_M_orderBar_sz (σ : xS) (τ : xL) {P : xP} (hP : PM σ P) (hV : PV P) {k n : Nat} (hk : k < 6) (hn : n ≤ 40) (hs : σ 69 k = nI n) (hne : ¬ n = pn P) : Rn m_M_orderBar [.ref 67, .int (nI k)] σ τ (some (.int (-3))) (m_fnd σ (nI 5)) τ := by
  intro Q h
  have h7 := hV.1
  refine ev_go 100 [] ?_
  refine ⟨6, rfl, q_in hk (by decide), ?_⟩
  rw [cl7 (by omega), hs]
  refine bn_t (nI_ne9 (by omega)) ?_
  refine ⟨6, rfl, q_in hk (by decide), ?_⟩
  rw [cl7 (by omega), hs]
  refine br_f (by rw [hP.1]; exact fun z => hne ((q_eq (by omega) (by omega)).mp z)) ?_
  refine e_M_finds σ τ 5 in5 _ ?_
  exact h
/-- the class's place of one -/
theorem e_H_indexOf (σ : xS) (τ : xL) {k n j : Nat} (hk : k < 6) (hn : n ≤ 7) (hs : σ 9 k = nI n) (hg : ∀ i, i < n → gd (σ (3 + k)) n i) (hj : j < n) : Rn m_H_indexOf [.ref 1, .int (nI k), .int (nI j)] σ τ (some (.int (nI (ps (σ (3 + k)) n j)))) σ τ := by
  intro Q h
  obtain ⟨a, b, c⟩ := ps_ok hn hg hj
  have e9 : σ 9 (nI k).toNatClampNeg = nI n := by rw [cl7 (by omega)]; exact hs
  refine ev_go 100 [2] ?_
  refine ev_iter (M := m_H_indexOf) (pc := 2) (st := []) (g := x_g) (Q := Q) (ps (σ (3 + k)) n j) (fun i => ([.ref 1, .int (nI k), .int (nI j), .int (nI i)], σ, τ)) (fun i hi kk => ?_) ?_
  · dsimp only at kk ⊢
    refine ev_go 100 [2] ?_
    refine ⟨6, rfl, q_in hk (by decide), ?_⟩
    rw [e9]
    refine br_f (nI_ge (by omega) (by omega)) ?_
    refine ⟨18, 6, 3 + k, rfl, Or.inl rfl, q_in hk (by decide), by rw [cl7 (by omega)]; exact rf_rows k hk, ?_⟩
    refine ⟨40, sh_rows k hk, q_in (by omega) (by decide), ?_⟩
    rw [cl7 (by omega)]
    refine bn_t (c i hi) ?_
    show Ev m_H_indexOf 2 [.ref 1, .int (nI k), .int (nI j), .int (nI i + 1)] [] x_g σ τ Q
    rw [nI_1]
    exact kk
  · dsimp only
    refine ev_go 100 [2] ?_
    refine ⟨6, rfl, q_in hk (by decide), ?_⟩
    rw [e9]
    refine br_f (nI_ge a (by omega)) ?_
    refine ⟨18, 6, 3 + k, rfl, Or.inl rfl, q_in hk (by decide), by rw [cl7 (by omega)]; exact rf_rows k hk, ?_⟩
    refine ⟨40, sh_rows k hk, q_in (by omega) (by decide), ?_⟩
    rw [cl7 (by omega)]
    refine bn_f b ?_
    exact h
