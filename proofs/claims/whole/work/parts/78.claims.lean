/-! CLAIMS -/
def ca (V : Nat → Int32) (i : Nat) : Nat := (V i).toNatClampNeg / 10
def cb (V : Nat → Int32) (i : Nat) : Nat := (V i).toNatClampNeg % 10
def clm (V : Nat → Int32) (m i : Nat) : Prop := ¬ V i < 0 ∧ ca V i < m ∧ cb V i < m ∧ ca V i ≠ cb V i
theorem cv_of {x : Int32} (h : ¬ x < 0) : x = nI x.toNatClampNeg ∧ x.toNatClampNeg < 2 ^ 31 := by
  obtain ⟨j, hj, e⟩ := nI_of h
  have : x.toNatClampNeg = j := by rw [e]; exact nI_clamp hj
  rw [this]
  exact ⟨e, hj⟩
theorem q_div10 {x : Int32} (h : ¬ x < 0) : x / 10 = nI (x.toNatClampNeg / 10) := by
  obtain ⟨e, hb⟩ := cv_of h
  have := pk_div (a := x.toNatClampNeg) (d := 10) hb (by decide) (by decide)
  rw [← e] at this
  exact this
theorem q_rem10 {x : Int32} (h : ¬ x < 0) : x - x / 10 * 10 = nI (x.toNatClampNeg % 10) := by
  obtain ⟨e, hb⟩ := cv_of h
  have := pk_rem (a := x.toNatClampNeg) (d := 10) hb (by decide) (by decide)
  rw [← e] at this
  exact this
theorem ca_lt {V : Nat → Int32} {i : Nat} (h : ¬ V i < 0) : ca V i < 2 ^ 31 := by
  have := (cv_of h).2
  unfold ca
  omega
theorem cb_lt {V : Nat → Int32} {i : Nat} : cb V i < 10 := Nat.mod_lt _ (by decide)
theorem e_S_aheadByClaim (σ : xS) (τ : xL) {k i : Nat} (hk : k < 6) (hi : i < 40) (h : ¬ σ (3 + k) i < 0) : Rn m_S_aheadByClaim [.ref 0, .int (nI k), .int (nI i)] σ τ (some (.int (nI (ca (σ (3 + k)) i)))) σ τ := by
  intro Q hQ
  refine ev_go 100 [] ?_
  refine ⟨18, 6, 3 + k, rfl, Or.inl rfl, q_in hk (by decide), by rw [cl7 (by omega)]; exact rf_rows k hk, ?_⟩
  refine ⟨40, sh_rows k hk, q_in hi (by decide), ?_⟩
  rw [cl7 (by omega)]
  refine ⟨by decide, ?_⟩
  rw [q_div10 h]
  exact hQ
theorem e_S_behindByClaim (σ : xS) (τ : xL) {k i : Nat} (hk : k < 6) (hi : i < 40) (h : ¬ σ (3 + k) i < 0) : Rn m_S_behindByClaim [.ref 0, .int (nI k), .int (nI i)] σ τ (some (.int (nI (cb (σ (3 + k)) i)))) σ τ := by
  intro Q hQ
  refine ev_go 100 [] ?_
  refine ⟨18, 6, 3 + k, rfl, Or.inl rfl, q_in hk (by decide), by rw [cl7 (by omega)]; exact rf_rows k hk, ?_⟩
  refine ⟨40, sh_rows k hk, q_in hi (by decide), ?_⟩
  rw [cl7 (by omega)]
  refine ⟨by decide, ?_⟩
  rw [q_rem10 h]
  exact hQ
theorem clm_two {V : Nat → Int32} {m i : Nat} (h7 : m ≤ 7) (h : ¬ V i < 0) : ((¬ nI (ca V i) < 0 ∧ ¬ nI m ≤ nI (ca V i)) ∧ (¬ nI (cb V i) < 0 ∧ ¬ nI m ≤ nI (cb V i)) ∧ ¬ nI (ca V i) = nI (cb V i)) ↔ clm V m i := by
  have b1 := ca_lt h
  have b2 := cb_lt (V := V) (i := i)
  rw [nI_leI (by omega) b1, nI_leI (by omega) (by omega), q_eq b1 (by omega)]
  constructor
  · rintro ⟨⟨-, h1⟩, ⟨-, h2⟩, h3⟩
    exact ⟨h, by omega, by omega, h3⟩
  · rintro ⟨-, h1, h2, h3⟩
    exact ⟨⟨nI_pos b1, by omega⟩, ⟨nI_pos (by omega), by omega⟩, h3⟩
theorem e_S_foc_no (σ : xS) (τ : xL) {k : Nat} (hk : k < 6) (hs : σ 9 k = -1) : Rn m_S_findingOfClaims [.ref 0, .int (nI k)] σ τ (some (.int 1)) σ τ := by
  intro Q h
  refine ev_go 100 [] ?_
  refine e_H_isThere1 σ τ _ (q_in hk (by decide)) _ ?_
  rw [cl7 (by omega), hs]
  refine bn_f (xb0 (by decide)) ?_
  exact h
theorem e_S_foc_sz (σ : xS) (τ : xL) {k n : Nat} (hk : k < 6) (hn : n ≤ 40) (hs : σ 9 k = nI n) (h8 : 8 < n) : Rn m_S_findingOfClaims [.ref 0, .int (nI k)] σ τ (some (.int 5)) σ τ := by
  intro Q h
  refine ev_go 100 [] ?_
  refine e_H_isThere1 σ τ _ (q_in hk (by decide)) _ ?_
  rw [cl7 (by omega), hs]
  refine bn_t (xb1 (nI_pos (by omega))) ?_
  refine ⟨6, rfl, q_in hk (by decide), ?_⟩
  rw [cl7 (by omega), hs]
  refine br_f (nI_ge (a := 8) h8 (by omega)) ?_
  exact h
theorem e_S_foc_go (σ : xS) (τ : xL) {P : xP} (hP : PC σ 17 P) (hV : PV P) {k n : Nat} (hk : k < 6) (hn : n ≤ 8) (hs : σ 9 k = nI n) {t : Nat} (ht : t ≤ n) (hg : ∀ i, i < t → clm (σ (3 + k)) (pn P) i) {Q : xQ} (kend : Ev m_S_findingOfClaims 31 [.ref 0, .int (nI k), .int (nI t)] [] x_g σ τ Q) : Ev m_S_findingOfClaims 0 (x_loc [.ref 0, .int (nI k)] m_S_findingOfClaims.2.2.1) [] x_g σ τ Q := by
  have h7 := hV.1
  refine ev_go 100 [31] ?_
  refine e_H_isThere1 σ τ _ (q_in hk (by decide)) _ ?_
  rw [cl7 (by omega), hs]
  refine bn_t (xb1 (nI_pos (by omega))) ?_
  refine ⟨6, rfl, q_in hk (by decide), ?_⟩
  rw [cl7 (by omega), hs]
  refine br_t (nI_le (b := 8) hn (by decide)) ?_
  refine ev_iter (M := m_S_findingOfClaims) (pc := 31) (st := []) (g := x_g) (Q := Q) t (fun i => ([.ref 0, .int (nI k), .int (nI i)], σ, τ)) (fun i hi kk => ?_) kend
  dsimp only at kk ⊢
  have hc := hg i hi
  refine ev_go 100 [31] ?_
  refine ⟨6, rfl, q_in hk (by decide), ?_⟩
  rw [cl7 (by omega), hs]
  refine br_f (nI_ge (by omega) (by omega)) ?_
  refine ⟨18, 6, 3 + k, rfl, Or.inl rfl, q_in hk (by decide), by rw [cl7 (by omega)]; exact rf_rows k hk, ?_⟩
  refine ⟨40, sh_rows k hk, q_in (by omega) (by decide), ?_⟩
  rw [cl7 (by omega)]
  refine br_f hc.1 ?_
  refine e_S_aheadByClaim σ τ hk (by omega) hc.1 _ ?_
  refine e_S_behindByClaim σ τ hk (by omega) hc.1 _ ?_
  refine e_P_areTwo σ τ _ _ _ ?_
  rw [hP.1]
  refine bn_t (xb1 ((clm_two h7 hc.1).mpr hc)) ?_
  show Ev m_S_findingOfClaims 31 [.ref 0, .int (nI k), .int (nI i + 1)] [] x_g σ τ Q
  rw [nI_1]
  exact kk
theorem e_S_foc_un (σ : xS) (τ : xL) {P : xP} (hP : PC σ 17 P) (hV : PV P) {k n : Nat} (hk : k < 6) (hn : n ≤ 8) (hs : σ 9 k = nI n) {t : Nat} (ht : t < n) (hg : ∀ i, i < t → clm (σ (3 + k)) (pn P) i) (hb : ¬ clm (σ (3 + k)) (pn P) t) : Rn m_S_findingOfClaims [.ref 0, .int (nI k)] σ τ (some (.int 3)) σ τ := by
  intro Q h
  have h7 := hV.1
  refine e_S_foc_go σ τ hP hV hk hn hs (Nat.le_of_lt ht) hg ?_
  refine ev_go 100 [] ?_
  refine ⟨6, rfl, q_in hk (by decide), ?_⟩
  rw [cl7 (by omega), hs]
  refine br_f (nI_ge (by omega) (by omega)) ?_
  refine ⟨18, 6, 3 + k, rfl, Or.inl rfl, q_in hk (by decide), by rw [cl7 (by omega)]; exact rf_rows k hk, ?_⟩
  refine ⟨40, sh_rows k hk, q_in (by omega) (by decide), ?_⟩
  rw [cl7 (by omega)]
  by_cases h0 : σ (3 + k) t < 0
  · refine br_t h0 ?_
    exact h
  · refine br_f h0 ?_
    refine e_S_aheadByClaim σ τ hk (by omega) h0 _ ?_
    refine e_S_behindByClaim σ τ hk (by omega) h0 _ ?_
    refine e_P_areTwo σ τ _ _ _ ?_
    rw [hP.1]
    refine bn_f (xb0 (fun z => hb ((clm_two h7 h0).mp z))) ?_
    exact h
theorem e_S_foc_ok (σ : xS) (τ : xL) {P : xP} (hP : PC σ 17 P) (hV : PV P) {k n : Nat} (hk : k < 6) (hn : n ≤ 8) (hs : σ 9 k = nI n) (hg : ∀ i, i < n → clm (σ (3 + k)) (pn P) i) : Rs m_S_findingOfClaims [.ref 0, .int (nI k)] σ τ (some (.int (if rg (edP P) (pn P) = true then 4 else 0))) (fun σ' => Ag [31, 32, 33] σ σ' ∧ Gc σ' (pn P) (edP P)) := by
  intro Q h
  have h7 := hV.1
  refine e_S_foc_go σ τ hP hV hk hn hs (Nat.le_refl _) hg ?_
  refine ev_go 100 [] ?_
  refine ⟨6, rfl, q_in hk (by decide), ?_⟩
  rw [cl7 (by omega), hs]
  refine br_t (nI_le (Nat.le_refl _) (by omega)) ?_
  refine e_S_closesToRing σ τ hP hV _ (fun σ1 h1 => ?_)
  by_cases hr : rg (edP P) (pn P) = true
  · refine br_f (xb1 hr) ?_
    rw [if_pos hr] at h
    exact h σ1 h1
  · refine br_t (xb0 hr) ?_
    rw [if_neg hr] at h
    exact h σ1 h1
/-- the model's bars -/
theorem e40k (k i : Nat) : (40 : Int32) * nI k + nI i = nI (40 * k + i) := by rw [show (40 : Int32) = nI 40 from rfl, pk_mul, nI_add]
theorem e_M_cb_no (σ : xS) (τ : xL) {k : Nat} (hk : k < 6) (hs : σ 69 k = -9) : Rn m_M_claimBar [.ref 67, .int (nI k)] σ τ (some (.int (-3))) (m_fnd σ (nI 1)) τ := by
  intro Q h
  refine ev_go 100 [] ?_
  refine e_M_isRow _ τ _ _ ?_
  refine bn_t (xb1 (in_row hk)) ?_
  refine ⟨6, rfl, q_in hk (by decide), ?_⟩
  rw [cl7 (by omega), hs]
  refine bn_f rfl ?_
  refine e_M_finds σ τ 1 in1 _ ?_
  exact h
theorem e_M_cb_sz (σ : xS) (τ : xL) {k n : Nat} (hk : k < 6) (hn : n ≤ 40) (hs : σ 69 k = nI n) (h8 : 8 < n) : Rn m_M_claimBar [.ref 67, .int (nI k)] σ τ (some (.int (-3))) (m_fnd σ (nI 5)) τ := by
  intro Q h
  refine ev_go 100 [] ?_
  refine e_M_isRow _ τ _ _ ?_
  refine bn_t (xb1 (in_row hk)) ?_
  refine ⟨6, rfl, q_in hk (by decide), ?_⟩
  rw [cl7 (by omega), hs]
  refine bn_t (nI_ne9 (by omega)) ?_
  refine ⟨6, rfl, q_in hk (by decide), ?_⟩
  rw [cl7 (by omega), hs]
  refine br_f (nI_ge (a := 8) h8 (by omega)) ?_
  refine e_M_finds σ τ 5 in5 _ ?_
  exact h
theorem e_M_cb_go (σ : xS) (τ : xL) {P : xP} (hP : PM σ P) (hV : PV P) {k n : Nat} (hk : k < 6) (hn : n ≤ 8) (hs : σ 69 k = nI n) {V : Nat → Int32} (hVV : ∀ i, i < 40 → V i = σ 70 (40 * k + i)) {t : Nat} (ht : t ≤ n) (hg : ∀ i, i < t → clm V (pn P) i) {Q : xQ} (kend : ∀ u : Value, Ev m_M_claimBar 45 [.ref 67, .int (nI k), .int (nI t), u] [] x_g σ τ Q) : Ev m_M_claimBar 0 (x_loc [.ref 67, .int (nI k)] m_M_claimBar.2.2.1) [] x_g σ τ Q := by
  have h7 := hV.1
  refine ev_go 100 [45] ?_
  refine e_M_isRow _ τ _ _ ?_
  refine bn_t (xb1 (in_row hk)) ?_
  refine ⟨6, rfl, q_in hk (by decide), ?_⟩
  rw [cl7 (by omega), hs]
  refine bn_t (nI_ne9 (by omega)) ?_
  refine ⟨6, rfl, q_in hk (by decide), ?_⟩
  rw [cl7 (by omega), hs]
  refine br_t (nI_le (b := 8) hn (by decide)) ?_
  refine ev_lj (α := Value) (M := m_M_claimBar) (pc := 45) (st := []) (g := x_g) (τ := τ) (Q := Q) t (fun i u => [.ref 67, .int (nI k), .int (nI i), u]) (fun _ σ' => σ' = σ) (fun i hi u σ1 hI kk => ?_) (fun u σ1 hI => by subst hI; exact kend u) .null σ rfl
  subst hI
  have hc := hg i hi
  refine ev_go 100 [45] ?_
  refine ⟨6, rfl, q_in hk (by decide), ?_⟩
  rw [cl7 (by omega), hs]
  refine br_f (nI_ge (by omega) (by omega)) ?_
  refine ⟨240, rfl, by rw [e40k]; exact q_in (by omega) (by decide), ?_⟩
  rw [e40k, cl7 (by omega), ← hVV i (by omega)]
  refine br_f hc.1 ?_
  refine ⟨by decide, ?_⟩
  refine ⟨by decide, ?_⟩
  rw [q_rem10 hc.1, q_div10 hc.1]
  refine e_M_arePair σ1 τ hP hV _ _ _ ?_
  refine bn_t (xb1 ((clm_two h7 hc.1).mpr hc)) ?_
  show Ev m_M_claimBar 45 [.ref 67, .int (nI k), .int (nI i + 1), .int (V i)] [] x_g σ1 τ Q
  rw [nI_1]
  exact kk _ _ rfl
theorem e_M_cb_un (σ : xS) (τ : xL) {P : xP} (hP : PM σ P) (hV : PV P) {k n : Nat} (hk : k < 6) (hn : n ≤ 8) (hs : σ 69 k = nI n) {V : Nat → Int32} (hVV : ∀ i, i < 40 → V i = σ 70 (40 * k + i)) {t : Nat} (ht : t < n) (hg : ∀ i, i < t → clm V (pn P) i) (hb : ¬ clm V (pn P) t) : Rn m_M_claimBar [.ref 67, .int (nI k)] σ τ (some (.int (-3))) (m_fnd σ (nI 3)) τ := by
  intro Q h
  have h7 := hV.1
  refine e_M_cb_go σ τ hP hV hk hn hs hVV (Nat.le_of_lt ht) hg (fun u => ?_)
  refine ev_go 100 [] ?_
  refine ⟨6, rfl, q_in hk (by decide), ?_⟩
  rw [cl7 (by omega), hs]
  refine br_f (nI_ge (by omega) (by omega)) ?_
  refine ⟨240, rfl, by rw [e40k]; exact q_in (by omega) (by decide), ?_⟩
  rw [e40k, cl7 (by omega), ← hVV t (by omega)]
  by_cases h0 : V t < 0
  · refine br_t h0 ?_
    refine e_M_finds σ τ 3 in3 _ ?_
    exact h
  · refine br_f h0 ?_
    refine ⟨by decide, ?_⟩
    refine ⟨by decide, ?_⟩
    rw [q_rem10 h0, q_div10 h0]
    refine e_M_arePair σ τ hP hV _ _ _ ?_
    refine bn_f (xb0 (fun z => hb ((clm_two h7 h0).mp z))) ?_
    refine e_M_finds σ τ 3 in3 _ ?_
    exact h
theorem e_M_cb_ok (σ : xS) (τ : xL) {P : xP} (hP : PM σ P) (hV : PV P) {k n : Nat} (hk : k < 6) (hn : n ≤ 8) (hs : σ 69 k = nI n) {V : Nat → Int32} (hVV : ∀ i, i < 40 → V i = σ 70 (40 * k + i)) (hg : ∀ i, i < n → clm V (pn P) i) (hr : rg (edP P) (pn P) = false) : Rs m_M_claimBar [.ref 67, .int (nI k)] σ τ (some (.int 0)) (fun σ' => Ag [85, 86] σ σ' ∧ Mc σ' (pn P) (edP P)) := by
  intro Q h
  refine e_M_cb_go σ τ hP hV hk hn hs hVV (Nat.le_refl _) hg (fun u => ?_)
  refine ev_go 100 [] ?_
  refine ⟨6, rfl, q_in hk (by decide), ?_⟩
  rw [cl7 (by omega), hs]
  refine br_t (nI_le (Nat.le_refl _) (by omega)) ?_
  refine e_M_isRingNow σ τ hP hV _ (fun σ1 h1 => ?_)
  refine br_t (xb0 (by simp [hr])) ?_
  exact h σ1 h1
theorem e_M_cb_ring (σ : xS) (τ : xL) {P : xP} (hP : PM σ P) (hV : PV P) {k n : Nat} (hk : k < 6) (hn : n ≤ 8) (hs : σ 69 k = nI n) {V : Nat → Int32} (hVV : ∀ i, i < 40 → V i = σ 70 (40 * k + i)) (hg : ∀ i, i < n → clm V (pn P) i) (hr : rg (edP P) (pn P) = true) : Rs m_M_claimBar [.ref 67, .int (nI k)] σ τ (some (.int (-3))) (fun σ' => ∃ σ3, Ag [85, 86] σ σ3 ∧ σ' = m_fnd σ3 (nI 4)) := by
  intro Q h
  refine e_M_cb_go σ τ hP hV hk hn hs hVV (Nat.le_refl _) hg (fun u => ?_)
  refine ev_go 100 [] ?_
  refine ⟨6, rfl, q_in hk (by decide), ?_⟩
  rw [cl7 (by omega), hs]
  refine br_t (nI_le (Nat.le_refl _) (by omega)) ?_
  refine e_M_isRingNow σ τ hP hV _ (fun σ1 h1 => ?_)
  refine br_f (xb1 hr) ?_
  refine e_M_finds σ1 τ 4 in4 _ ?_
  exact h _ ⟨σ1, h1.1, rfl⟩
theorem clm_cases {V : Nat → Int32} {m n : Nat} : (∃ t, t < n ∧ (∀ i, i < t → clm V m i) ∧ ¬ clm V m t) ∨ ∀ i, i < n → clm V m i := by
  by_cases h : ∃ t, t < n ∧ ¬ clm V m t
  · obtain ⟨t, h1, h2⟩ := h
    obtain ⟨u, a, b, c⟩ := least (p := fun t => ¬ clm V m t) t h2
    exact Or.inl ⟨u, by omega, fun i hi => Classical.byContradiction (c i hi), b⟩
  · exact Or.inr (fun i hi => Classical.byContradiction (fun z => h ⟨i, hi, z⟩))
theorem Rn.rs {M : xM} {as : List Value} {σ σ' : xS} {τ : xL} {r : Option Value} {Φ : xS → Prop} (h : Rn M as σ τ r σ' τ) (hΦ : Φ σ') : Rs M as σ τ r Φ := fun Q hQ => h Q (hQ _ hΦ)
/-- a row of claims is refused by both alike, or taken by both -/
theorem claims_both {σ : xS} {τ : xL} (hR : Rel σ τ) {P : xP} (hC : PC σ 17 P) (hM : PM σ P) (hV : PV P) {k : Nat} (hk : k < 6) :
    (∃ f, 0 < f ∧ f < 6 ∧ Rs m_S_findingOfClaims [.ref 0, .int (nI k)] σ τ (some (.int (nI f))) (fun σ1 => Ag [31, 32, 33] σ σ1) ∧ ∀ σ1, Ag [31, 32, 33] σ σ1 → Rs m_M_claimBar [.ref 67, .int (nI k)] (c_ref σ1 (nI f)) τ (some (.int (-3))) (fun σ2 => ∃ σ3, Ag [85, 86] (c_ref σ1 (nI f)) σ3 ∧ σ2 = m_fnd σ3 (nI f)))
    ∨ (∃ n, n ≤ 8 ∧ σ 9 k = nI n ∧ σ 69 k = nI n ∧ (∀ i, i < n → clm (σ (3 + k)) (pn P) i) ∧ rg (edP P) (pn P) = false ∧ Rs m_S_findingOfClaims [.ref 0, .int (nI k)] σ τ (some (.int 0)) (fun σ1 => Ag [31, 32, 33] σ σ1 ∧ Gc σ1 (pn P) (edP P)) ∧ ∀ σ1 τ1, PM σ1 P → σ1 69 = σ 69 → σ1 70 = σ 70 → Rs m_M_claimBar [.ref 67, .int (nI k)] σ1 τ1 (some (.int 0)) (fun σ2 => Ag [85, 86] σ1 σ2 ∧ Mc σ2 (pn P) (edP P))) := by
  have hVV : ∀ i, i < 40 → σ (3 + k) i = σ 70 (40 * k + i) := (hR.1.2 k hk).2
  have e69 : ∀ {σ1 : xS} {f : Int32}, Ag [31, 32, 33] σ σ1 → c_ref σ1 f 69 = σ 69 := fun h => by rw [Ag.cref 69 (by decide), h 69 (by decide)]
  have e70 : ∀ {σ1 : xS} {f : Int32}, Ag [31, 32, 33] σ σ1 → c_ref σ1 f 70 = σ 70 := fun h => by rw [Ag.cref 70 (by decide), h 70 (by decide)]
  have eM : ∀ {σ1 : xS} {f : Int32}, Ag [31, 32, 33] σ σ1 → PM (c_ref σ1 f) P := fun h => (hM.ag h (by decide)).ag Ag.cref (by decide)
  rcases hR.1.size hk with ⟨s1, s2⟩ | ⟨n, hn, s1, s2⟩
  · exact Or.inl ⟨1, by decide, by decide, (e_S_foc_no σ τ hk s1).rs Ag.refl, fun σ1 h1 => (e_M_cb_no _ τ hk (by rw [e69 h1]; exact s2)).rs ⟨_, Ag.refl, rfl⟩⟩
  by_cases h8 : 8 < n
  · exact Or.inl ⟨5, by decide, by decide, (e_S_foc_sz σ τ hk hn s1 h8).rs Ag.refl, fun σ1 h1 => (e_M_cb_sz _ τ hk hn (by rw [e69 h1]; exact s2) h8).rs ⟨_, Ag.refl, rfl⟩⟩
  have h8 : n ≤ 8 := by omega
  rcases clm_cases (V := σ (3 + k)) (m := pn P) (n := n) with ⟨t, ht, hg, hb⟩ | hg
  · exact Or.inl ⟨3, by decide, by decide, (e_S_foc_un σ τ hC hV hk h8 s1 ht hg hb).rs Ag.refl, fun σ1 h1 => (e_M_cb_un _ τ (eM h1) hV hk h8 (by rw [e69 h1]; exact s2) (V := σ (3 + k)) (fun i hi => by rw [e70 h1]; exact hVV i hi) ht hg hb).rs ⟨_, Ag.refl, rfl⟩⟩
  have hok := e_S_foc_ok σ τ hC hV hk h8 s1 hg
  cases hr : rg (edP P) (pn P) with
  | true =>
    rw [hr, if_pos rfl] at hok
    exact Or.inl ⟨4, by decide, by decide, fun Q hQ => hok Q (fun σ' h' => hQ σ' h'.1), fun σ1 h1 => e_M_cb_ring _ τ (eM h1) hV hk h8 (by rw [e69 h1]; exact s2) (V := σ (3 + k)) (fun i hi => by rw [e70 h1]; exact hVV i hi) hg hr⟩
  | false =>
    rw [hr, if_neg (by decide)] at hok
    exact Or.inr ⟨n, h8, s1, s2, hg, rfl, hok, fun σ1 τ1 h1 h2 h3 => e_M_cb_ok σ1 τ1 h1 hV hk h8 (by rw [h2]; exact s2) (V := σ (3 + k)) (fun i hi => by rw [h3]; exact hVV i hi) hg hr⟩
