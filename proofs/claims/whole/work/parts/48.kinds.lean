/-! KINDS: 0 foot, 1 heavy, 2 hare, 3 twice, 4 cart, 5 leveret -/
def su (k w : Nat) : Bool := match w with
  | 0 => true
  | 1 => k == 1 || k == 4
  | 2 => k == 2 || k == 5
  | _ => k == w
def tO (o b : Nat) : Bool := match o with
  | 1 => false
  | 3 => false
  | 4 => b == 2 || b == 5
  | 5 => b == 0
  | _ => true
def tB (b o : Nat) : Bool := match b with
  | 3 => false
  | 2 => o == 4
  | 5 => o == 4
  | _ => true
/-- a crossing tells -/
def tl (P : xP) (k : Nat) : Bool := tO (pk P (po P k)) (pk P (pu P k)) && tB (pk P (pu P k)) (pk P (po P k))
theorem k6 {o : Nat} (h : o ≤ 5) : o = 0 ∨ o = 1 ∨ o = 2 ∨ o = 3 ∨ o = 4 ∨ o = 5 := by omega
theorem e_P_isSuch (σ : xS) (τ : xL) {k w : Nat} (hk : k ≤ 5) (hw : w ≤ 5) : Rn m_P_isSuch [.int (nI k), .int (nI w)] σ τ (some (.int (x_b (su k w = true)))) σ τ := by
  intro Q h
  rcases k6 hk with rfl | rfl | rfl | rfl | rfl | rfl <;> rcases k6 hw with rfl | rfl | rfl | rfl | rfl | rfl
  all_goals
    refine ev_go 100 [] ?_
    repeat first
      | exact ⟨Or.inl rfl, h⟩
      | exact ⟨Or.inr rfl, h⟩
      | refine br_t (by decide) ?_
      | refine br_f (by decide) ?_
      | refine bn_t (by decide) ?_
      | refine bn_f (by decide) ?_
theorem e_P_tellsAsOver (σ : xS) (τ : xL) {k w : Nat} (hk : k ≤ 5) (hw : w ≤ 5) : Rn m_P_tellsAsOver [.int (nI k), .int (nI w)] σ τ (some (.int (x_b (tO k w = true)))) σ τ := by
  intro Q h
  rcases k6 hk with rfl | rfl | rfl | rfl | rfl | rfl <;> rcases k6 hw with rfl | rfl | rfl | rfl | rfl | rfl
  all_goals
    refine ev_go 100 [] ?_
    repeat first
      | exact ⟨Or.inl rfl, h⟩
      | exact ⟨Or.inr rfl, h⟩
      | refine br_t (by decide) ?_
      | refine br_f (by decide) ?_
      | refine bn_t (by decide) ?_
      | refine bn_f (by decide) ?_
theorem e_P_tellsAsBeneath (σ : xS) (τ : xL) {k w : Nat} (hk : k ≤ 5) (hw : w ≤ 5) : Rn m_P_tellsAsBeneath [.int (nI k), .int (nI w)] σ τ (some (.int (x_b (tB k w = true)))) σ τ := by
  intro Q h
  rcases k6 hk with rfl | rfl | rfl | rfl | rfl | rfl <;> rcases k6 hw with rfl | rfl | rfl | rfl | rfl | rfl
  all_goals
    refine ev_go 100 [] ?_
    repeat first
      | exact ⟨Or.inl rfl, h⟩
      | exact ⟨Or.inr rfl, h⟩
      | refine br_t (by decide) ?_
      | refine br_f (by decide) ?_
      | refine bn_t (by decide) ?_
      | refine bn_f (by decide) ?_
theorem cl7 {n : Nat} (h : n < 2 ^ 31) : (nI n).toNatClampNeg = n := nI_clamp h
theorem e_P_isOfKind (σ : xS) (τ : xL) {P : xP} (hP : PC σ 17 P) (hV : PV P) {i w : Nat} (hi : i < pn P) (hw : w ≤ 5) : Rn m_P_isOfKind [.ref 17, .int (nI i), .int (nI w)] σ τ (some (.int (x_b (su (pk P i) w = true)))) σ τ := by
  intro Q h
  have h7 := hV.1
  refine ev_go 100 [] ?_
  refine ⟨7, rfl, q_in (by omega) (by decide), ?_⟩
  have e : σ 18 (nI i).toNatClampNeg = nI (pk P i) := by rw [cl7 (by omega)]; exact (hP.2.2.2.1 i hi).1
  rw [e]
  refine e_P_isSuch σ τ (hV.2.2.2.1 i hi).1 hw _ ?_
  exact ⟨x_b_01, h⟩
theorem e_P_tells (σ : xS) (τ : xL) {P : xP} (hP : PC σ 17 P) (hV : PV P) {k : Nat} (hk : k < pc P) : Rn m_P_tells [.ref 17, .int (nI k)] σ τ (some (.int (x_b (tl P k = true)))) σ τ := by
  intro Q h
  have h7 := hV.1
  have h16 := hV.2.1
  obtain ⟨v1, v2, v3⟩ := hV.2.2.2.2 k hk
  obtain ⟨w1, -, -⟩ := hV.2.2.2.1 _ v1
  obtain ⟨w2, -, -⟩ := hV.2.2.2.1 _ v2
  have eo : σ 21 (nI k).toNatClampNeg = nI (po P k) := by rw [cl7 (by omega)]; exact (hP.2.2.2.2 k hk).1
  have eu : σ 22 (nI k).toNatClampNeg = nI (pu P k) := by rw [cl7 (by omega)]; exact (hP.2.2.2.2 k hk).2
  have ko : σ 18 (nI (po P k)).toNatClampNeg = nI (pk P (po P k)) := by rw [cl7 (by omega)]; exact (hP.2.2.2.1 _ v1).1
  have ku : σ 18 (nI (pu P k)).toNatClampNeg = nI (pk P (pu P k)) := by rw [cl7 (by omega)]; exact (hP.2.2.2.1 _ v2).1
  refine ev_go 100 [] ?_
  refine ⟨16, rfl, q_in (by omega) (by decide), ?_⟩
  rw [eo]
  refine ⟨7, rfl, q_in (by omega) (by decide), ?_⟩
  rw [ko]
  refine ⟨16, rfl, q_in (by omega) (by decide), ?_⟩
  rw [eu]
  refine ⟨7, rfl, q_in (by omega) (by decide), ?_⟩
  rw [ku]
  refine e_P_tellsAsOver σ τ w1 w2 _ ?_
  by_cases h1 : tO (pk P (po P k)) (pk P (pu P k)) = true
  · refine br_f (xb1 h1) ?_
    refine e_P_tellsAsBeneath σ τ w2 w1 _ ?_
    by_cases h2 : tB (pk P (pu P k)) (pk P (po P k)) = true
    · refine br_f (xb1 h2) ?_
      rw [x_b_t (show tl P k = true by unfold tl; rw [h1, h2]; rfl)] at h
      exact ⟨Or.inr rfl, h⟩
    · refine br_t (xb0 h2) ?_
      rw [x_b_f (show ¬ tl P k = true by unfold tl; rw [h1]; simpa using h2)] at h
      exact ⟨Or.inl rfl, h⟩
  · refine br_t (xb0 h1) ?_
    rw [x_b_f (show ¬ tl P k = true by unfold tl; simp only [Bool.and_eq_true]; exact fun q => h1 q.1)] at h
    exact ⟨Or.inl rfl, h⟩
theorem q_ltI {a b : Nat} (ha : a < 2 ^ 31) (hb : b < 2 ^ 31) : nI a < nI b ↔ a < b := nI_ltI ha hb
/-- a model's kind, asked -/
theorem e_M_isA (σ : xS) (τ : xL) {P : xP} (hP : PM σ P) (hV : PV P) {i w : Nat} (hi : i < pn P) (hw : w ≤ 5) (hw0 : 0 < w) : Rn m_M_isA [.ref 67, .int (nI i), .int (nI w)] σ τ (some (.int (x_b (su (pk P i) w = true)))) σ τ := by
  intro Q h
  have h7 := hV.1
  obtain ⟨hk, -, -⟩ := hV.2.2.2.1 i hi
  have e : σ 74 (nI i).toNatClampNeg = nI (pk P i) := by rw [cl7 (by omega)]; exact (hP.2.2.2.1 i hi).1
  refine ev_go 100 [] ?_
  refine ⟨7, rfl, q_in (by omega) (by decide), ?_⟩
  rw [e]
  generalize pk P i = k at hk e h ⊢
  rcases k6 hk with rfl | rfl | rfl | rfl | rfl | rfl <;> rcases k6 hw with rfl | rfl | rfl | rfl | rfl | rfl
  all_goals first
    | exact absurd hw0 (by decide)
    | skip
  all_goals
    repeat first
      | exact ⟨Or.inl rfl, h⟩
      | exact ⟨Or.inr rfl, h⟩
      | refine br_t (by decide) ?_
      | refine br_f (by decide) ?_
      | refine bn_t (by decide) ?_
      | refine bn_f (by decide) ?_
      | (refine ⟨7, rfl, q_in (by omega) (by decide), ?_⟩; rw [e])
theorem e_M_letsOver (σ : xS) (τ : xL) {P : xP} (hP : PM σ P) (hV : PV P) {i j : Nat} (hi : i < pn P) (hj : j < pn P) : Rn m_M_letsOver [.ref 67, .int (nI i), .int (nI j)] σ τ (some (.int (x_b (tO (pk P i) (pk P j) = true)))) σ τ := by
  intro Q h
  have h7 := hV.1
  obtain ⟨hk, -, -⟩ := hV.2.2.2.1 i hi
  obtain ⟨hk2, -, -⟩ := hV.2.2.2.1 j hj
  have e : σ 74 (nI i).toNatClampNeg = nI (pk P i) := by rw [cl7 (by omega)]; exact (hP.2.2.2.1 i hi).1
  have e2 : σ 74 (nI j).toNatClampNeg = nI (pk P j) := by rw [cl7 (by omega)]; exact (hP.2.2.2.1 j hj).1
  have hA := e_M_isA σ τ hP hV hj (w := 2) (by decide) (by decide)
  refine ev_go 100 [] ?_
  refine ⟨7, rfl, q_in (by omega) (by decide), ?_⟩
  rw [e]
  generalize pk P i = k at hk e h ⊢
  generalize pk P j = k2 at hk2 e2 h hA ⊢
  rcases k6 hk with rfl | rfl | rfl | rfl | rfl | rfl
  · refine br_t (by decide) ?_
    exact ⟨Or.inr rfl, h⟩
  · refine br_f (by decide) (br_t (by decide) ?_)
    exact ⟨Or.inl rfl, h⟩
  · refine br_f (by decide) (br_f (by decide) (br_t (by decide) ?_))
    exact ⟨Or.inr rfl, h⟩
  · refine br_f (by decide) (br_f (by decide) (br_f (by decide) (br_t (by decide) ?_)))
    exact ⟨Or.inl rfl, h⟩
  · refine br_f (by decide) (br_f (by decide) (br_f (by decide) (br_f (by decide) (br_t (by decide) ?_))))
    refine hA _ ?_
    exact ⟨x_b_01, h⟩
  · refine br_f (by decide) (br_f (by decide) (br_f (by decide) (br_f (by decide) (br_f (by decide) (br_t (by decide) ?_)))))
    refine ⟨7, rfl, q_in (by omega) (by decide), ?_⟩
    rw [e2]
    rcases k6 hk2 with rfl | rfl | rfl | rfl | rfl | rfl
    all_goals
      repeat first
        | exact ⟨Or.inl rfl, h⟩
        | exact ⟨Or.inr rfl, h⟩
        | refine bn_t (by decide) ?_
        | refine bn_f (by decide) ?_
theorem e_M_letsUnder (σ : xS) (τ : xL) {P : xP} (hP : PM σ P) (hV : PV P) {i j : Nat} (hi : i < pn P) (hj : j < pn P) : Rn m_M_letsUnder [.ref 67, .int (nI i), .int (nI j)] σ τ (some (.int (x_b (tB (pk P i) (pk P j) = true)))) σ τ := by
  intro Q h
  have h7 := hV.1
  obtain ⟨hk, -, -⟩ := hV.2.2.2.1 i hi
  obtain ⟨hk2, -, -⟩ := hV.2.2.2.1 j hj
  have e : σ 74 (nI i).toNatClampNeg = nI (pk P i) := by rw [cl7 (by omega)]; exact (hP.2.2.2.1 i hi).1
  have e2 : σ 74 (nI j).toNatClampNeg = nI (pk P j) := by rw [cl7 (by omega)]; exact (hP.2.2.2.1 j hj).1
  have hA := e_M_isA σ τ hP hV hi (w := 2) (by decide) (by decide)
  refine ev_go 100 [] ?_
  refine hA _ ?_
  generalize pk P i = k at hk e h ⊢
  generalize pk P j = k2 at hk2 e2 h ⊢
  rcases k6 hk with rfl | rfl | rfl | rfl | rfl | rfl <;> rcases k6 hk2 with rfl | rfl | rfl | rfl | rfl | rfl
  all_goals
    repeat first
      | exact ⟨Or.inl rfl, h⟩
      | exact ⟨Or.inr rfl, h⟩
      | refine br_t (by decide) ?_
      | refine br_f (by decide) ?_
      | refine bn_t (by decide) ?_
      | refine bn_f (by decide) ?_
      | (refine ⟨7, rfl, q_in (by omega) (by decide), ?_⟩; first | rw [e] | rw [e2])
theorem e_M_isTelling (σ : xS) (τ : xL) {P : xP} (hP : PM σ P) (hV : PV P) {k : Nat} (hk : k < pc P) : Rn m_M_isTelling [.ref 67, .int (nI k)] σ τ (some (.int (x_b (tl P k = true)))) σ τ := by
  intro Q h
  have h7 := hV.1
  have h16 := hV.2.1
  obtain ⟨v1, v2, v3⟩ := hV.2.2.2.2 k hk
  have eo : σ 77 (nI k).toNatClampNeg = nI (po P k) := by rw [cl7 (by omega)]; exact (hP.2.2.2.2 k hk).1
  have eu : σ 78 (nI k).toNatClampNeg = nI (pu P k) := by rw [cl7 (by omega)]; exact (hP.2.2.2.2 k hk).2
  refine ev_go 100 [] ?_
  refine ⟨16, rfl, q_in (by omega) (by decide), ?_⟩
  rw [eo]
  refine ⟨16, rfl, q_in (by omega) (by decide), ?_⟩
  rw [eu]
  refine e_M_letsOver σ τ hP hV v1 v2 _ ?_
  by_cases h1 : tO (pk P (po P k)) (pk P (pu P k)) = true
  · refine br_f (xb1 h1) ?_
    refine ⟨16, rfl, q_in (by omega) (by decide), ?_⟩
    rw [eu]
    refine ⟨16, rfl, q_in (by omega) (by decide), ?_⟩
    rw [eo]
    refine e_M_letsUnder σ τ hP hV v2 v1 _ ?_
    by_cases h2 : tB (pk P (pu P k)) (pk P (po P k)) = true
    · refine br_f (xb1 h2) ?_
      rw [x_b_t (show tl P k = true by unfold tl; rw [h1, h2]; rfl)] at h
      exact ⟨Or.inr rfl, h⟩
    · refine br_t (xb0 h2) ?_
      rw [x_b_f (show ¬ tl P k = true by unfold tl; rw [h1]; simpa using h2)] at h
      exact ⟨Or.inl rfl, h⟩
  · refine br_t (xb0 h1) ?_
    rw [x_b_f (show ¬ tl P k = true by unfold tl; simp only [Bool.and_eq_true]; exact fun q => h1 q.1)] at h
    exact ⟨Or.inl rfl, h⟩
/-- is it a track; are they two -/
theorem e_P_isTrack (σ : xS) (τ : xL) (i : Int32) : Rn m_P_isTrack [.ref 17, .int i] σ τ (some (.int (x_b (¬ i < 0 ∧ ¬ σ 17 0 ≤ i)))) σ τ := by
  intro Q h
  refine ev_go 100 [] ?_
  refine And.intro (fun h1 => ?_) (fun h1 => And.intro (fun h2 => ?_) (fun h2 => ?_))
  · rw [x_b_f (fun q => q.1 h1)] at h
    exact ⟨Or.inl rfl, h⟩
  · rw [x_b_f (fun q => q.2 h2)] at h
    exact ⟨Or.inl rfl, h⟩
  · rw [x_b_t ⟨h1, h2⟩] at h
    exact ⟨Or.inr rfl, h⟩
theorem e_P_isTrackD (σ : xS) (τ : xL) (i : Int32) : Rn m_P_isTrack [.ref 24, .int i] σ τ (some (.int (x_b (¬ i < 0 ∧ ¬ σ 24 0 ≤ i)))) σ τ := by
  intro Q h
  refine ev_go 100 [] ?_
  refine And.intro (fun h1 => ?_) (fun h1 => And.intro (fun h2 => ?_) (fun h2 => ?_))
  · rw [x_b_f (fun q => q.1 h1)] at h
    exact ⟨Or.inl rfl, h⟩
  · rw [x_b_f (fun q => q.2 h2)] at h
    exact ⟨Or.inl rfl, h⟩
  · rw [x_b_t ⟨h1, h2⟩] at h
    exact ⟨Or.inr rfl, h⟩
theorem e_P_areTwo (σ : xS) (τ : xL) (i j : Int32) : Rn m_P_areTwo [.ref 17, .int i, .int j] σ τ (some (.int (x_b ((¬ i < 0 ∧ ¬ σ 17 0 ≤ i) ∧ (¬ j < 0 ∧ ¬ σ 17 0 ≤ j) ∧ ¬ i = j)))) σ τ := by
  intro Q h
  refine ev_go 100 [] ?_
  refine e_P_isTrack σ τ i _ ?_
  by_cases h1 : ¬ i < 0 ∧ ¬ σ 17 0 ≤ i
  · refine br_f (xb1 h1) ?_
    refine e_P_isTrack σ τ j _ ?_
    by_cases h2 : ¬ j < 0 ∧ ¬ σ 17 0 ≤ j
    · refine br_f (xb1 h2) ?_
      refine And.intro (fun h3 => ?_) (fun h3 => ?_)
      · rw [x_b_f (fun q => q.2.2 h3)] at h
        exact ⟨Or.inl rfl, h⟩
      · rw [x_b_t ⟨h1, h2, h3⟩] at h
        exact ⟨Or.inr rfl, h⟩
    · refine br_t (xb0 h2) ?_
      rw [x_b_f (fun q => h2 q.2.1)] at h
      exact ⟨Or.inl rfl, h⟩
  · refine br_t (xb0 h1) ?_
    rw [x_b_f (fun q => h1 q.1)] at h
    exact ⟨Or.inl rfl, h⟩
theorem e_P_areTwoD (σ : xS) (τ : xL) (i j : Int32) : Rn m_P_areTwo [.ref 24, .int i, .int j] σ τ (some (.int (x_b ((¬ i < 0 ∧ ¬ σ 24 0 ≤ i) ∧ (¬ j < 0 ∧ ¬ σ 24 0 ≤ j) ∧ ¬ i = j)))) σ τ := by
  intro Q h
  refine ev_go 100 [] ?_
  refine e_P_isTrackD σ τ i _ ?_
  by_cases h1 : ¬ i < 0 ∧ ¬ σ 24 0 ≤ i
  · refine br_f (xb1 h1) ?_
    refine e_P_isTrackD σ τ j _ ?_
    by_cases h2 : ¬ j < 0 ∧ ¬ σ 24 0 ≤ j
    · refine br_f (xb1 h2) ?_
      refine And.intro (fun h3 => ?_) (fun h3 => ?_)
      · rw [x_b_f (fun q => q.2.2 h3)] at h
        exact ⟨Or.inl rfl, h⟩
      · rw [x_b_t ⟨h1, h2, h3⟩] at h
        exact ⟨Or.inr rfl, h⟩
    · refine br_t (xb0 h2) ?_
      rw [x_b_f (fun q => h2 q.2.1)] at h
      exact ⟨Or.inl rfl, h⟩
  · refine br_t (xb0 h1) ?_
    rw [x_b_f (fun q => h1 q.1)] at h
    exact ⟨Or.inl rfl, h⟩
/-- a number of a track, as both test it -/
theorem q_trk {n : Nat} (hn : n ≤ 7) (i : Int32) : (¬ i < 0 ∧ ¬ nI n ≤ i) ↔ ∃ k, k < n ∧ i = nI k := by
  constructor
  · rintro ⟨h1, h2⟩
    rcases q_ix i n (by omega) with h | h
    · exact (h.elim h1 h2).elim
    · exact h
  · rintro ⟨k, hk, rfl⟩
    exact ⟨nI_pos (by omega), nI_ge hk (by omega)⟩
theorem e_M_isTrack (σ : xS) (τ : xL) {P : xP} (hP : PM σ P) (hV : PV P) (i : Int32) : Rn m_M_isTrack [.ref 67, .int i] σ τ (some (.int (x_b (¬ i < 0 ∧ ¬ nI (pn P) ≤ i)))) σ τ := by
  intro Q h
  have h7 := hV.1
  refine ev_go 100 [] ?_
  refine e_M_in σ τ i 0 _ _ ?_
  rw [hP.1]
  rw [show x_b (¬ i < 0 ∧ ¬ (nI (pn P) - 1) < i) = x_b (¬ i < 0 ∧ ¬ nI (pn P) ≤ i) from by
    by_cases q : ¬ i < 0 ∧ ¬ nI (pn P) ≤ i
    · rw [x_b_t q, x_b_t ⟨q.1, fun z => q.2 ((q_pred (by omega) i).mp z)⟩]
    · rw [x_b_f q, x_b_f (fun z => q ⟨z.1, fun y => z.2 ((q_pred (by omega) i).mpr y)⟩)]]
  exact ⟨x_b_01, h⟩
theorem e_M_arePair (σ : xS) (τ : xL) {P : xP} (hP : PM σ P) (hV : PV P) (i j : Int32) : Rn m_M_arePair [.ref 67, .int i, .int j] σ τ (some (.int (x_b ((¬ i < 0 ∧ ¬ nI (pn P) ≤ i) ∧ (¬ j < 0 ∧ ¬ nI (pn P) ≤ j) ∧ ¬ i = j)))) σ τ := by
  intro Q h
  refine ev_go 100 [] ?_
  refine e_M_isTrack σ τ hP hV i _ ?_
  by_cases h1 : ¬ i < 0 ∧ ¬ nI (pn P) ≤ i
  · refine br_f (xb1 h1) ?_
    refine e_M_isTrack σ τ hP hV j _ ?_
    by_cases h2 : ¬ j < 0 ∧ ¬ nI (pn P) ≤ j
    · refine br_f (xb1 h2) ?_
      refine And.intro (fun h3 => ?_) (fun h3 => ?_)
      · rw [x_b_f (fun q => q.2.2 h3)] at h
        exact ⟨Or.inl rfl, h⟩
      · rw [x_b_t ⟨h1, h2, h3⟩] at h
        exact ⟨Or.inr rfl, h⟩
    · refine br_t (xb0 h2) ?_
      rw [x_b_f (fun q => h2 q.2.1)] at h
      exact ⟨Or.inl rfl, h⟩
  · refine br_t (xb0 h1) ?_
    rw [x_b_f (fun q => h1 q.1)] at h
    exact ⟨Or.inl rfl, h⟩
