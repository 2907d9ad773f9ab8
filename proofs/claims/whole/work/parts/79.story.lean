/-! STORIES -/
theorem wr_sub {e e' : Nat → Nat → Bool} {n : Nat} (h : ∀ j i, e j i = true → e' j i = true) {m i j : Nat} (hm : m ≤ n) (hw : wr e m i j = true) : wr e' n i j = true :=
  wr_min (R := fun i j => wr e' n i j) (fun i j he => wr_base (h j i he)) (fun i k j hk a b => wr_trans hk a b) hm hw
theorem e1_sub {e : Nat → Nat → Bool} {a b : Nat} : ∀ j i, e j i = true → e1 e a b j i = true := fun j i h => by simp [e1, h]
theorem wr_e1 {e : Nat → Nat → Bool} {n a b : Nat} (ha : a < n) (hb : b < n) (i j : Nat) : wr (e1 e a b) n i j = (wr e n i j || ((i == a || wr e n i a) && (wr e n b j || j == b))) := by
  rw [Bool.eq_iff_iff]
  constructor
  · intro h
    refine wr_min (R := fun i j => wr e n i j || ((i == a || wr e n i a) && (wr e n b j || j == b))) (fun i j he => ?_) (fun i k j hk h1 h2 => ?_) (Nat.le_refl n) h
    · simp only [e1, Bool.or_eq_true, Bool.and_eq_true, beq_iff_eq] at he ⊢
      rcases he with he | ⟨rfl, rfl⟩
      · exact Or.inl (wr_base he)
      · exact Or.inr ⟨Or.inl rfl, Or.inr rfl⟩
    · simp only [Bool.or_eq_true, Bool.and_eq_true, beq_iff_eq] at h1 h2 ⊢
      rcases h1 with p1 | ⟨q1, q2⟩ <;> rcases h2 with p2 | ⟨q3, q4⟩
      · exact Or.inl (wr_trans hk p1 p2)
      · refine Or.inr ⟨Or.inr ?_, q4⟩
        rcases q3 with rfl | q3
        · exact p1
        · exact wr_trans hk p1 q3
      · refine Or.inr ⟨q1, Or.inl ?_⟩
        rcases q2 with q2 | rfl
        · exact wr_trans hk q2 p2
        · exact p2
      · exact Or.inr ⟨q1, q4⟩
  · intro h
    have up : ∀ {x y : Nat}, wr e n x y = true → wr (e1 e a b) n x y = true := fun h => wr_sub e1_sub (Nat.le_refl n) h
    have ab : wr (e1 e a b) n a b = true := wr_base (by simp [e1])
    simp only [Bool.or_eq_true, Bool.and_eq_true, beq_iff_eq] at h
    rcases h with h | ⟨h1, h2⟩
    · exact up h
    · have ib : wr (e1 e a b) n i b = true := by
        rcases h1 with rfl | h1
        · exact ab
        · exact wr_trans ha (up h1) ab
      rcases h2 with h2 | rfl
      · exact wr_trans hb ib (up h2)
      · exact ib
theorem rg_e1 {e : Nat → Nat → Bool} {n a b : Nat} (hr : rg e n = false) (ha : a < n) (hb : b < n) (hab : a ≠ b) : rg (e1 e a b) n = wr e n b a := by
  have h0 := anb_no.mp hr
  rw [Bool.eq_iff_iff]
  constructor
  · intro h
    obtain ⟨i, hi, h⟩ := anb_iff.mp h
    rw [wr_e1 ha hb] at h
    simp only [Bool.or_eq_true, Bool.and_eq_true, beq_iff_eq] at h
    rcases h with h | ⟨h1, h2⟩
    · rw [h0 i hi] at h
      cases h
    · rcases h1 with rfl | h1 <;> rcases h2 with h2 | rfl
      · exact h2
      · exact absurd rfl hab
      · exact wr_trans hi h2 h1
      · exact h1
  · intro h
    refine anb_iff.mpr ⟨a, ha, ?_⟩
    rw [wr_e1 ha hb]
    simp [h]
/-- the edges with the first i claims -/
def ces (V : Nat → Int32) (e : Nat → Nat → Bool) : Nat → Nat → Nat → Bool
  | 0 => e
  | i + 1 => e1 (ces V e i) (ca V i) (cb V i)
theorem e_G_addSure (σ : xS) (τ : xL) {n : Nat} (h7 : n ≤ 7) (hG : GH σ n) {a : Nat → Nat → Bool} (hA : Ar σ 33 n (fun i => bs (a i) n)) {x y : Nat} (hx : x < n) (hy : y < n) : Rs m_G_addSure [.ref 31, .int (nI x), .int (nI y)] σ τ none (fun σ' => Ag [33] σ σ' ∧ Ar σ' 33 n (fun i => bs (fun j => a i j || ((i == x || a i x) && (a y j || j == y))) n)) := by
  intro Q h
  refine ev_go 100 [14] ?_
  refine ⟨7, rfl, q_in (by omega) (by decide), ?_⟩
  rw [hA.get hy (by omega)]
  show Ev m_G_addSure 14 [.ref 31, .int (nI x), .int (nI y), .int (nI (bs (a y) n) ||| ((1 : Int32) <<< (nI y &&& 31))), .int 0] [] x_g σ τ Q
  rw [q_shl1 (by omega), q_or, bs_or hy]
  refine ev_lp (M := m_G_addSure) (pc := 14) (st := []) (g := x_g) (τ := τ) (Q := Q) n (fun i => [.ref 31, .int (nI x), .int (nI y), .int (nI (bs (fun j => a y j || j == y) n)), .int (nI i)]) (fun i σ' => Ag [33] σ σ' ∧ Ar σ' 33 n (fun i' => if i' < i then bs (fun j => a i' j || ((i' == x || a i' x) && (a y j || j == y))) n else bs (a i') n)) (fun i hi σ1 hI kk => ?_) (fun σ1 hI => ?_) σ ⟨Ag.refl, hA.congr (fun j hj => (if_neg (by omega)).symm)⟩
  · have hG1 := hG.ag hI.1 (by decide)
    have hrd : σ1 33 (nI i).toNatClampNeg = nI (bs (a i) n) := by
      have := hI.2.get hi (by omega)
      rw [if_neg (Nat.lt_irrefl i)] at this
      exact this
    have yes : (i == x || a i x) = true → Ev m_G_addSure 14 [.ref 31, .int (nI x), .int (nI y), .int (nI (bs (fun j => a y j || j == y) n)), .int (nI i + 1)] [] x_g (x_row σ1 33 (upd (σ1 33) (nI i).toNatClampNeg (σ1 33 (nI i).toNatClampNeg ||| nI (bs (fun j => a y j || j == y) n)))) τ Q := by
      intro hc
      rw [hrd, q_or, bs_orb, nI_1, cl7 (by omega)]
      refine kk _ ⟨hI.1.row (by decide), hI.2.nx ?_⟩
      exact bs_ext (fun j _ => by rw [hc, Bool.true_and])
    refine ev_go 100 [14] ?_
    refine br_f (by rw [hG1.1]; exact nI_ge hi (by omega)) ?_
    by_cases hix : i = x
    · refine br_t (by rw [hix]) ?_
      refine ⟨7, rfl, q_in (by omega) (by decide), ?_⟩
      refine ⟨7, rfl, q_in (by omega) (by decide), ?_⟩
      exact yes (by simp [hix])
    · refine br_f (fun z => hix ((q_eq (by omega) (by omega)).mp z)) ?_
      refine ⟨7, rfl, q_in (by omega) (by decide), ?_⟩
      rw [hrd]
      refine e_S_has σ1 τ (b31 h7) (by omega) _ ?_
      have eb : (bs (a i) n).testBit x = a i x := by rw [bs_bit]; simp [hx]
      rw [eb]
      by_cases hax : a i x = true
      · refine br_f (xb1 hax) ?_
        refine ⟨7, rfl, q_in (by omega) (by decide), ?_⟩
        refine ⟨7, rfl, q_in (by omega) (by decide), ?_⟩
        exact yes (by simp [hax])
      · refine br_t (xb0 hax) ?_
        show Ev m_G_addSure 14 [.ref 31, .int (nI x), .int (nI y), .int (nI (bs (fun j => a y j || j == y) n)), .int (nI i + 1)] [] x_g σ1 τ Q
        rw [nI_1]
        refine kk _ ⟨hI.1, hI.2.nx0 ?_⟩
        exact bs_ext (fun j _ => by rw [show (i == x) = false from beq_eq_false_iff_ne.mpr hix, show a i x = false from by simpa using hax]; simp)
  · have hG1 := hG.ag hI.1 (by decide)
    refine ev_go 100 [] ?_
    refine br_t (by rw [hG1.1]; exact nI_le (Nat.le_refl _) (by omega)) ?_
    exact h _ ⟨hI.1, hI.2.congr (fun j hj => if_pos hj)⟩
theorem e_M_claims (σ : xS) (τ : xL) {k i m : Nat} (h7 : m ≤ 7) (hk : k < 6) (hi : i < 40) {V : Nat → Int32} (hVV : ∀ i, i < 40 → V i = σ 70 (40 * k + i)) (hc : clm V m i) {e : Nat → Nat → Bool} (hB : Mr σ m e) : Rs m_M_claims [.ref 67, .int (nI k), .int (nI i)] σ τ none (fun σ' => Ag [85] σ σ' ∧ Mr σ' m (e1 e (ca V i) (cb V i))) := by
  intro Q h
  obtain ⟨c0, c1, c2, c3⟩ := hc
  refine ev_go 100 [] ?_
  refine ⟨240, rfl, by rw [e40k]; exact q_in (by omega) (by decide), ?_⟩
  rw [e40k, cl7 (by omega), ← hVV i hi]
  refine ⟨by decide, ?_⟩
  have er : V i - V i / 10 * 10 = nI (cb V i) := q_rem10 c0
  have ed : V i / 10 = nI (ca V i) := q_div10 c0
  rw [er]
  refine ⟨7, rfl, q_in (by omega) (by decide), ?_⟩
  refine ⟨by decide, ?_⟩
  refine ⟨7, rfl, q_in (by omega) (by decide), ?_⟩
  rw [ed, cl7 (by omega), hB (cb V i) (by omega), q_shl1 (by omega), q_or]
  exact h _ ⟨Ag.refl.row (by decide), hB.e1 c1⟩
theorem f_cases {f : Nat → Bool} {n : Nat} : ∃ t, t ≤ n ∧ (∀ i, i < t → f i = false) ∧ (t = n ∨ f t = true) := by
  by_cases h : ∃ t, t < n ∧ f t = true
  · obtain ⟨t, h1, h2⟩ := h
    obtain ⟨u, a, b, c⟩ := least (p := fun t => f t = true) t h2
    exact ⟨u, by omega, fun i hi => by simpa using c i hi, Or.inr b⟩
  · exact ⟨n, Nat.le_refl n, fun i hi => by
      cases hf : f i
      · rfl
      · exact absurd ⟨i, hi, hf⟩ h, Or.inl rfl⟩
theorem ces_rg {V : Nat → Int32} {e : Nat → Nat → Bool} {m n t : Nat} (hr : rg e m = false) (hg : ∀ i, i < n → clm V m i) (ht : t ≤ n) (hf : ∀ i, i < t → wr (ces V e i) m (cb V i) (ca V i) = false) : ∀ i, i ≤ t → rg (ces V e i) m = false
  | 0, _ => hr
  | i + 1, hi => by
    have ih := ces_rg hr hg ht hf i (by omega)
    obtain ⟨c0, c1, c2, c3⟩ := hg i (by omega)
    show rg (e1 (ces V e i) (ca V i) (cb V i)) m = false
    rw [rg_e1 ih c1 c2 c3]
    exact hf i (by omega)
theorem pair_story (r : Int32) : Pair m_S_story m_M_story [.int r] := by
  intro σ τ hR
  obtain ⟨P, hC, hM, hV, hK⟩ := hR.2.2.1
  have h7 := hV.1
  refine ev_go 100 [42] ?_
  refine e_H_isNumber1 σ τ r _ ?_
  rcases q_ix r 6 (by decide) with h0 | ⟨k, hk, rfl⟩
  · refine bn_f (xb0 (fun q => h0.elim q.1 q.2)) ?_
    refine ⟨rfl, ?_⟩
    refine ev_go 100 [] ?_
    have : Rn m_M_claimBar [.ref 67, .int r] σ τ (some (.int (-1))) σ τ := by
      intro Q h
      refine ev_go 100 [] ?_
      refine e_M_isRow σ τ r _ ?_
      refine bn_f (xb0 (fun q => h0.elim q.1 (fun z => q.2 ((q_5 r).mpr z)))) ?_
      exact h
    refine this _ ?_
    refine br_f (by decide) ?_
    exact ⟨rfl, rfl, ⟨_, rfl⟩, hR⟩
  refine bn_t (xb1 (in_row6 hk)) ?_
  have hVV : ∀ i, i < 40 → σ (3 + k) i = σ 70 (40 * k + i) := (hR.1.2 k hk).2
  rcases claims_both hR hC hM hV hk with ⟨f, f0, f6, hS, hB⟩ | ⟨n, n8, s1, s2, hg, hr, hS, hB⟩
  · refine hS _ (fun σ1 h1 => ?_)
    refine br_f (nI_ne0 f0 (by omega)) ?_
    refine e_S_refuse σ1 τ (nI f) (q_in f6 (by decide)) _ ?_
    refine ⟨rfl, ?_⟩
    refine ev_go 100 [] ?_
    refine hB σ1 h1 _ (fun σ2 h2 => ?_)
    obtain ⟨σ3, h3, rfl⟩ := h2
    refine br_f (by decide) ?_
    exact ⟨rfl, rfl, ⟨_, rfl⟩, hR.fnd h1 (by decide) f6 h3 (by decide)⟩
  refine hS _ (fun σ1 h1 => ?_)
  refine br_t rfl ?_
  obtain ⟨hA1, hG1⟩ := h1
  refine ⟨6, rfl, q_in hk (by decide), ?_⟩
  rw [cl7 (by omega), hA1 9 (by decide), s1]
  obtain ⟨t, ht, hf, hend⟩ := f_cases (f := fun i => wr (ces (σ (3 + k)) (edP P) i) (pn P) (cb (σ (3 + k)) i) (ca (σ (3 + k)) i)) (n := n)
  have hrg := ces_rg hr hg ht hf
  have hrow : ∀ {σ' : xS}, Ag [33] σ1 σ' → σ' (3 + k) = σ (3 + k) := fun h => by rw [h (3 + k) (by simp; omega), hA1 (3 + k) (by simp; omega)]
  -- the model's answer
  have mod : ∀ (σ2 : xS), Ag [33] σ1 σ2 → Ev m_M_story 0 (x_loc [.ref 67, .int (nI k)] m_M_story.2.2.1) [] x_g σ2 τ (fun r2 g2 σ3 τ3 => g2 = x_g ∧ some (Value.int (nI t)) = r2 ∧ (∃ v, some (Value.int (nI t)) = some v) ∧ Rel σ3 τ3) := by
    intro σ2 hA2
    have hM2 : PM σ2 P := (hM.ag hA1 (by decide)).ag hA2 (by decide)
    have e69 : σ2 69 = σ 69 := by rw [hA2 69 (by decide), hA1 69 (by decide)]
    have e70 : σ2 70 = σ 70 := by rw [hA2 70 (by decide), hA1 70 (by decide)]
    refine ev_go 100 [14] ?_
    refine hB σ2 τ hM2 e69 e70 _ (fun σ3 h3 => ?_)
    refine br_t rfl ?_
    have hRel : ∀ {σ' : xS}, Ag [85, 86] σ3 σ' → Rel σ' τ := fun h => ((((hR.ag hA1 (by decide)).ag hA2 (by decide)).ag h3.1 (by decide)).ag h (by decide))
    refine ev_lp (M := m_M_story) (pc := 14) (st := []) (g := x_g) (τ := τ) t (fun i => [.ref 67, .int (nI k), .int 0, .int (nI i)]) (fun i σ' => Ag [85, 86] σ3 σ' ∧ Mr σ' (pn P) (ces (σ (3 + k)) (edP P) i)) (fun i hi σ4 hI kk => ?_) (fun σ4 hI => ?_) σ3 ⟨Ag.refl, h3.2.1⟩
    · obtain ⟨hA4, hB4⟩ := hI
      have hM4 := (hM2.ag h3.1 (by decide)).ag hA4 (by decide)
      refine ev_go 100 [14] ?_
      refine ⟨6, rfl, q_in hk (by decide), ?_⟩
      rw [cl7 (by omega), hA4 69 (by decide), h3.1 69 (by decide), e69, s2]
      refine br_f (nI_ge (by omega) (by omega)) ?_
      refine e_M_claims σ4 τ h7 hk (by omega) (V := σ (3 + k)) (fun i hi => by rw [hA4 70 (by decide), h3.1 70 (by decide), e70]; exact hVV i hi) (hg i (by omega)) hB4 _ (fun σ5 h5 => ?_)
      have hM5 := hM4.ag h5.1 (by decide)
      refine e_M_isRing σ5 τ h7 hM5.1 (h5.2.mono h7) _ (fun σ6 h6 => ?_)
      refine br_t (xb0 (by have := hrg (i + 1) (by omega); simp only [ces] at this; simp [this])) ?_
      show Ev m_M_story 14 [.ref 67, .int (nI k), .int 0, .int (nI i + 1)] [] x_g σ6 τ _
      rw [nI_1]
      exact kk σ6 ⟨(hA4.trans (h5.1.mono (by decide))).trans (h6.1.mono (by decide)), h5.2.ag h6.1 (by decide)⟩
    · obtain ⟨hA4, hB4⟩ := hI
      have hM4 := (hM2.ag h3.1 (by decide)).ag hA4 (by decide)
      have e694 : σ4 69 k = nI n := by rw [hA4 69 (by decide), h3.1 69 (by decide), e69]; exact s2
      rcases Nat.lt_or_ge t n with hlt | hge
      · have hft : wr (ces (σ (3 + k)) (edP P) t) (pn P) (cb (σ (3 + k)) t) (ca (σ (3 + k)) t) = true := by
          rcases hend with hend | hend
          · omega
          · exact hend
        refine ev_go 100 [] ?_
        refine ⟨6, rfl, q_in hk (by decide), ?_⟩
        rw [cl7 (by omega), e694]
        refine br_f (nI_ge hlt (by omega)) ?_
        refine e_M_claims σ4 τ h7 hk (by omega) (V := σ (3 + k)) (fun i hi => by rw [hA4 70 (by decide), h3.1 70 (by decide), e70]; exact hVV i hi) (hg t hlt) hB4 _ (fun σ5 h5 => ?_)
        have hM5 := hM4.ag h5.1 (by decide)
        refine e_M_isRing σ5 τ h7 hM5.1 (h5.2.mono h7) _ (fun σ6 h6 => ?_)
        obtain ⟨c0, c1, c2, c3⟩ := hg t hlt
        refine br_f (xb1 (by rw [rg_e1 (hrg t (Nat.le_refl t)) c1 c2 c3]; exact hft)) ?_
        exact ⟨rfl, rfl, ⟨_, rfl⟩, hRel ((hA4.trans (h5.1.mono (by decide))).trans (h6.1.mono (by decide)))⟩
      · have : t = n := by omega
        subst this
        refine ev_go 100 [] ?_
        refine ⟨6, rfl, q_in hk (by decide), ?_⟩
        rw [cl7 (by omega), e694]
        refine br_t (nI_le (Nat.le_refl _) (by omega)) ?_
        refine ⟨6, rfl, q_in hk (by decide), ?_⟩
        rw [cl7 (by omega), e694]
        exact ⟨rfl, rfl, ⟨_, rfl⟩, hRel hA4⟩
  refine ev_lj (α := Value × Value) (M := m_S_story) (pc := 42) (st := []) (g := x_g) (τ := τ) t (fun i u => [.ref 0, .int (nI k), .int 0, .int (nI n), .int (nI i), u.1, u.2]) (fun i σ' => Ag [33] σ1 σ' ∧ Ar σ' 33 (pn P) (fun x => bs (wr (ces (σ (3 + k)) (edP P) i) (pn P) x) (pn P))) (fun i hi u σ2 hI kk => ?_) (fun u σ2 hI => ?_) (.null, .null) σ1 ⟨Ag.refl, hG1.2⟩
  · obtain ⟨hA2, hB2⟩ := hI
    obtain ⟨c0, c1, c2, c3⟩ := hg i (by omega)
    have er := hrow hA2
    refine ev_go 100 [42] ?_
    refine br_f (nI_ge (by omega) (by omega)) ?_
    refine e_S_aheadByClaim σ2 τ hk (by omega) (by rw [er]; exact c0) _ ?_
    refine e_S_behindByClaim σ2 τ hk (by omega) (by rw [er]; exact c0) _ ?_
    rw [er]
    refine ⟨7, rfl, q_in (by omega) (by decide), ?_⟩
    rw [hB2.get c2 (by omega)]
    refine e_S_has σ2 τ (b31 h7) (by omega) _ ?_
    refine br_t (xb0 (by rw [bs_bit, hf i hi]; simp)) ?_
    refine e_G_addSure σ2 τ h7 (hG1.1.1.ag hA2 (by decide)) hB2 c1 c2 _ (fun σ3 h3 => ?_)
    show Ev m_S_story 42 [.ref 0, .int (nI k), .int 0, .int (nI n), .int (nI i + 1), .int (nI (ca (σ (3 + k)) i)), .int (nI (cb (σ (3 + k)) i))] [] x_g σ3 τ _
    rw [nI_1]
    refine kk (_, _) σ3 ⟨hA2.trans h3.1, h3.2.congr (fun x hx => ?_)⟩
    exact bs_ext (fun j hj => (wr_e1 c1 c2 x j).symm)
  · obtain ⟨hA2, hB2⟩ := hI
    have er := hrow hA2
    rcases Nat.lt_or_ge t n with hlt | hge
    · have hft : wr (ces (σ (3 + k)) (edP P) t) (pn P) (cb (σ (3 + k)) t) (ca (σ (3 + k)) t) = true := by
        rcases hend with hend | hend
        · omega
        · exact hend
      obtain ⟨c0, c1, c2, c3⟩ := hg t hlt
      refine ev_go 100 [] ?_
      refine br_f (nI_ge hlt (by omega)) ?_
      refine e_S_aheadByClaim σ2 τ hk (by omega) (by rw [er]; exact c0) _ ?_
      refine e_S_behindByClaim σ2 τ hk (by omega) (by rw [er]; exact c0) _ ?_
      rw [er]
      refine ⟨7, rfl, q_in (by omega) (by decide), ?_⟩
      rw [hB2.get c2 (by omega)]
      refine e_S_has σ2 τ (b31 h7) (by omega) _ ?_
      refine br_f (xb1 (by rw [bs_bit, hft]; simp [c1])) ?_
      exact ⟨rfl, mod σ2 hA2⟩
    · have : t = n := by omega
      subst this
      refine ev_go 100 [] ?_
      refine br_t (nI_le (Nat.le_refl _) (by omega)) ?_
      exact ⟨rfl, mod σ2 hA2⟩
