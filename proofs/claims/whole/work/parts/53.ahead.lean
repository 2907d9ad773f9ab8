/-! THE MODEL'S EDGES -/
theorem ev_lj {α : Type} {M : xM} {pc : Nat} {st : List Value} {g : xG} {Q : xQ} {τ : xL} (N : Nat) (F : Nat → α → List Value) (I : Nat → xS → Prop)
    (step : ∀ i, i < N → ∀ u σ, I i σ → (∀ u' σ', I (i + 1) σ' → Ev M pc (F (i + 1) u') st g σ' τ Q) → Ev M pc (F i u) st g σ τ Q)
    (fin : ∀ u σ, I N σ → Ev M pc (F N u) st g σ τ Q) : ∀ u σ, I 0 σ → Ev M pc (F 0 u) st g σ τ Q := by
  have h : ∀ k, k ≤ N → ∀ u σ, I (N - k) σ → Ev M pc (F (N - k) u) st g σ τ Q := by
    intro k
    induction k with
    | zero => exact fun _ => fin
    | succ k ih =>
      intro hk u σ hI
      have := ih (by omega)
      have e : N - k = N - (k + 1) + 1 := by omega
      rw [e] at this
      exact step _ (by omega) u σ hI this
  have := h N (Nat.le_refl N)
  rwa [Nat.sub_self] at this
theorem e_M_isByWind (σ : xS) (τ : xL) {P : xP} (hP : PM σ P) (hV : PV P) {i j : Nat} (hi : i < pn P) (hj : j < pn P) : Rn m_M_isByWind [.ref 67, .int (nI i), .int (nI j)] σ τ (some (.int (x_b (wt P i j = true)))) σ τ := by
  intro Q h
  have h7 := hV.1
  obtain ⟨a1, a2, a3⟩ := hV.2.2.2.1 i hi
  obtain ⟨b1, b2, b3⟩ := hV.2.2.2.1 j hj
  have e1 : σ 74 (nI i).toNatClampNeg = nI (pk P i) := by rw [cl7 (by omega)]; exact (hP.2.2.2.1 i hi).1
  have e2 : σ 74 (nI j).toNatClampNeg = nI (pk P j) := by rw [cl7 (by omega)]; exact (hP.2.2.2.1 j hj).1
  have f1 : σ 76 (nI i).toNatClampNeg = nI (pf P i) := by rw [cl7 (by omega)]; exact (hP.2.2.2.1 i hi).2.2
  have f2 : σ 76 (nI j).toNatClampNeg = nI (pf P j) := by rw [cl7 (by omega)]; exact (hP.2.2.2.1 j hj).2.2
  have hq : wt P i j = true ↔ (((¬ pk P i = 3 ∧ ¬ pk P j = 3) ∧ ¬ pf P i = 10) ∧ ¬ pf P j = 10) ∧ pf P j + 2 ≤ pf P i := by
    simp only [wt, Bool.and_eq_true, beq_iff_eq, Bool.not_eq_true', beq_eq_false_iff_ne, decide_eq_true_eq, ne_eq]
  refine ev_go 100 [] ?_
  refine ⟨7, rfl, q_in (by omega) (by decide), ?_⟩
  rw [e1]
  by_cases g1 : pk P i = 3
  · refine br_t (by rw [g1]; rfl) ?_
    rw [x_b_f (fun z => (hq.mp z).1.1.1.1 g1)] at h
    exact ⟨Or.inl rfl, h⟩
  refine br_f (fun z => g1 ((nI_eq (b := 3) (by omega) (by decide)).mp z)) ?_
  refine ⟨7, rfl, q_in (by omega) (by decide), ?_⟩
  rw [e2]
  by_cases g2 : pk P j = 3
  · refine br_t (by rw [g2]; rfl) ?_
    rw [x_b_f (fun z => (hq.mp z).1.1.1.2 g2)] at h
    exact ⟨Or.inl rfl, h⟩
  refine br_f (fun z => g2 ((nI_eq (b := 3) (by omega) (by decide)).mp z)) ?_
  refine ⟨7, rfl, q_in (by omega) (by decide), ?_⟩
  rw [f1]
  by_cases g3 : pf P i = 10
  · refine br_t (by rw [g3]; rfl) ?_
    rw [x_b_f (fun z => (hq.mp z).1.1.2 g3)] at h
    exact ⟨Or.inl rfl, h⟩
  refine br_f (fun z => g3 ((nI_eq (b := 10) (by omega) (by decide)).mp z)) ?_
  refine ⟨7, rfl, q_in (by omega) (by decide), ?_⟩
  rw [f2]
  by_cases g4 : pf P j = 10
  · refine br_t (by rw [g4]; rfl) ?_
    rw [x_b_f (fun z => (hq.mp z).1.2 g4)] at h
    exact ⟨Or.inl rfl, h⟩
  refine br_f (fun z => g4 ((nI_eq (b := 10) (by omega) (by decide)).mp z)) ?_
  refine ⟨7, rfl, q_in (by omega) (by decide), ?_⟩
  refine ⟨7, rfl, q_in (by omega) (by decide), ?_⟩
  rw [f1, f2]
  have hlt : nI (pf P i) < nI (pf P j) + 2 ↔ pf P i < pf P j + 2 := by
    rw [show (2 : Int32) = nI 2 from rfl, nI_add]
    exact q_ltI (by omega) (by omega)
  by_cases g5 : pf P j + 2 ≤ pf P i
  · refine br_f (fun z => Nat.not_lt.mpr g5 (hlt.mp z)) ?_
    rw [x_b_t (hq.mpr ⟨⟨⟨⟨g1, g2⟩, g3⟩, g4⟩, g5⟩)] at h
    exact ⟨Or.inr rfl, h⟩
  · refine br_t (hlt.mpr (Nat.not_le.mp g5)) ?_
    rw [x_b_f (fun z => g5 (hq.mp z).2)] at h
    exact ⟨Or.inl rfl, h⟩
/-- which crossings tell when some crossings and some tracks are left out -/
def fT (P : xP) (a b : Nat) : Nat → Bool := fun k => !a.testBit k && (!b.testBit (po P k) && (!b.testBit (pu P k) && tl P k))
def tT (b : Nat) : Nat → Bool := fun i => !b.testBit i
theorem e_M_findAhead (σ : xS) (τ : xL) {P : xP} (hP : PM σ P) (hV : PV P) {a b w : Nat} (ha : a < 2 ^ 31) (hb : b < 2 ^ 31) (hw : w ≤ 1) {vw : Int32} (hvw : vw = nI w) : Rs m_M_findAhead [.ref 67, .int (nI a), .int (nI b), .int vw] σ τ none (fun σ' => Ag [85] σ σ' ∧ Ar σ' 85 7 (fun j => bs (ed P (fT P a b) (tT b) (w == 1) j) (pn P))) := by
  intro Q h
  subst hvw
  have h7 := hV.1
  have h16 := hV.2.1
  -- the third loop
  have third : ∀ (u : Value × Value) (σ1 : xS), Ag [85] σ σ1 → Ar σ1 85 7 (fun j => bs (fun i => eC P (fT P a b) (pc P) j i) (pn P)) → Ev m_M_findAhead 131 [.ref 67, .int (nI a), .int (nI b), .int (nI w), .int (nI 0), u.1, u.2] [] x_g σ1 τ Q := by
    intro u σ1 hg hA
    by_cases hw1 : w = 1
    · subst hw1
      refine ev_lj (α := Value × Value) (M := m_M_findAhead) (pc := 131) (st := []) (g := x_g) (Q := Q) (τ := τ) (pn P) (fun j u => [.ref 67, .int (nI a), .int (nI b), .int (nI 1), .int (nI j), u.1, u.2]) (fun l σ' => Ag [85] σ σ' ∧ Ar σ' 85 7 (fun j => bs (fun i => eC P (fT P a b) (pc P) j i || (decide (j < l) && eW P (tT b) j i)) (pn P))) (fun l hl u σ1 hI kk => ?_) (fun u σ1 hI => ?_) u σ1 ⟨hg, by simpa using hA⟩
      · obtain ⟨hg, hI⟩ := hI
        have hP1 := hP.ag hg (by decide)
        refine ev_go 100 [148] ?_
        refine br_f (by rw [hP1.1]; exact nI_ge hl (by omega)) ?_
        refine bn_f rfl ?_
        refine ev_lj (α := Value) (M := m_M_findAhead) (pc := 148) (st := []) (g := x_g) (Q := Q) (τ := τ) (pn P) (fun i u => [.ref 67, .int (nI a), .int (nI b), .int (nI 1), .int (nI l), .int (nI i), u]) (fun k σ' => Ag [85] σ σ' ∧ Ar σ' 85 7 (fun j => bs (fun i => (eC P (fT P a b) (pc P) j i || (decide (j < l) && eW P (tT b) j i)) || (j == l && (decide (i < k) && eW P (tT b) j i))) (pn P))) (fun k hk u σ2 hJ kk2 => ?_) (fun u σ2 hJ => ?_) u.2 σ1 ⟨hg, by simpa using hI⟩
        · obtain ⟨hg2, hJ⟩ := hJ
          have hP2 := hP.ag hg2 (by decide)
          have ejoin : (tT b k && (tT b l && wt P k l)) = eW P (tT b) l k := by simp [eW, hk, hl]
          have join : Ev m_M_findAhead 191 [.ref 67, .int (nI a), .int (nI b), .int (nI 1), .int (nI l), .int (nI k), u] [.int (x_b (eW P (tT b) l k = true))] x_g σ2 τ Q := by
            refine ev_go 100 [148] ?_
            refine ⟨7, rfl, q_in (by omega) (by decide), ?_⟩
            by_cases ht : eW P (tT b) l k = true
            · refine br_f (xb1 ht) ?_
              refine ⟨7, rfl, q_in (by omega) (by decide), ?_⟩
              rw [hJ.get (by omega) (by omega), q_shl1 (by omega), q_or, cl7 (by omega)]
              show Ev m_M_findAhead 148 [.ref 67, .int (nI a), .int (nI b), .int (nI 1), .int (nI l), .int (nI k + 1), .int (x_b (eW P (tT b) l k = true))] [] x_g _ τ Q
              rw [nI_1]
              refine kk2 _ _ ⟨hg2.row (by decide), ?_⟩
              refine (hJ.orb (e := fun j i => (eC P (fT P a b) (pc P) j i || (decide (j < l) && eW P (tT b) j i)) || (j == l && (decide (i < k) && eW P (tT b) j i))) hk).congr (fun j _ => bs_ext (fun i _ => ?_))
              rw [Bool.or_assoc]
              refine or_r ?_
              by_cases e1 : j = l
              · subst e1
                by_cases e2 : i = k
                · subst e2
                  simp [ht]
                · by_cases e3 : i < k
                  · simp [e2, e3, show i < k + 1 by omega]
                  · simp [e2, e3, show ¬ i < k + 1 by omega]
              · have e1' : (j == l) = false := beq_eq_false_iff_ne.mpr e1
                rw [e1']
                rfl
            · refine br_t (xb0 ht) ?_
              refine ⟨7, rfl, q_in (by omega) (by decide), ?_⟩
              rw [hJ.get (by omega) (by omega), show (0 : Int32) = nI 0 from rfl, q_or, cl7 (by omega), Nat.or_zero]
              show Ev m_M_findAhead 148 [.ref 67, .int (nI a), .int (nI b), .int (nI 1), .int (nI l), .int (nI k + 1), .int (x_b (eW P (tT b) l k = true))] [] x_g _ τ Q
              rw [nI_1]
              refine kk2 _ _ ⟨hg2.row (by decide), hJ.up.congr (fun j _ => ?_)⟩
              simp only [Bool.not_eq_true] at ht
              have key : ∀ j i, ((eC P (fT P a b) (pc P) j i || (decide (j < l) && eW P (tT b) j i)) || (j == l && (decide (i < k) && eW P (tT b) j i))) = ((eC P (fT P a b) (pc P) j i || (decide (j < l) && eW P (tT b) j i)) || (j == l && (decide (i < k + 1) && eW P (tT b) j i))) := by
                intro j i
                refine or_r ?_
                by_cases e1 : j = l
                · subst e1
                  by_cases e2 : i = k
                  · subst e2
                    simp [ht]
                  · by_cases e3 : i < k
                    · simp [e3, show i < k + 1 by omega]
                    · simp [e3, show ¬ i < k + 1 by omega]
                · have e1' : (j == l) = false := beq_eq_false_iff_ne.mpr e1
                  rw [e1']
                  rfl
              simp only [nup]
              by_cases e1 : j = l
              · subst e1
                rw [if_pos rfl]
                exact bs_ext (fun i _ => key j i)
              · rw [if_neg e1]
                exact bs_ext (fun i _ => key j i)
          refine ev_go 100 [191] ?_
          refine br_f (by rw [hP2.1]; exact nI_ge hk (by omega)) ?_
          refine e_M_has σ2 τ hb (by omega) _ ?_
          by_cases t1 : b.testBit k = true
          · refine bn_t (xb1 t1) ?_
            rw [x_b_f (by rw [← ejoin]; simp [tT, t1])] at join
            exact join
          refine bn_f (xb0 t1) ?_
          refine e_M_has σ2 τ hb (by omega) _ ?_
          by_cases t2 : b.testBit l = true
          · refine bn_t (xb1 t2) ?_
            rw [x_b_f (by rw [← ejoin]; simp [tT, t2])] at join
            exact join
          refine bn_f (xb0 t2) ?_
          refine e_M_isByWind σ2 τ hP2 hV hk hl _ ?_
          by_cases t3 : wt P k l = true
          · refine br_f (xb1 t3) ?_
            rw [x_b_t (by rw [← ejoin]; simp [tT, t1, t2, t3])] at join
            exact join
          · refine br_t (xb0 t3) ?_
            rw [x_b_f (by rw [← ejoin]; simp [tT, t3])] at join
            exact join
        · obtain ⟨hg2, hJ⟩ := hJ
          have hP2 := hP.ag hg2 (by decide)
          refine ev_go 100 [131] ?_
          refine br_t (by rw [hP2.1]; exact nI_le (Nat.le_refl _) (by omega)) ?_
          show Ev m_M_findAhead 131 [.ref 67, .int (nI a), .int (nI b), .int (nI 1), .int (nI l + 1), .int (nI (pn P)), u] [] x_g _ τ Q
          rw [nI_1]
          refine kk (_, _) _ ⟨hg2, hJ.congr (fun j _ => bs_ext (fun i hi => ?_))⟩
          rw [Bool.or_assoc]
          refine or_r ?_
          by_cases e1 : j = l
          · subst e1
            simp [hi]
          · by_cases e3 : j < l
            · simp [e1, e3, show j < l + 1 by omega]
            · simp [e1, e3, show ¬ j < l + 1 by omega]
      · obtain ⟨hg, hI⟩ := hI
        refine ev_go 100 [] ?_
        refine br_t (by rw [hg 67 (by decide), hP.1]; exact nI_le (Nat.le_refl _) (by omega)) ?_
        refine h _ ⟨hg, hI.congr (fun j _ => bs_ext (fun i hi => ?_))⟩
        simp only [ed]
        refine or_r ?_
        by_cases hj : j < pn P
        · simp [hj]
        · simp [hj, eW]
    · have hw0 : w = 0 := by omega
      subst hw0
      have fin : Q none x_g σ1 τ := h _ ⟨hg, hA.congr (fun j _ => bs_ext (fun i hi => by simp [ed]))⟩
      refine ev_go 100 [] ?_
      refine And.intro (fun _ => ?_) (fun _ => ?_)
      · exact fin
      · refine bn_t (by decide) ?_
        exact fin
  have second : ∀ (u : Value × Value) (σ1 : xS), Ag [85] σ σ1 → Ar σ1 85 7 (fun j => 0) → Ev m_M_findAhead 27 [.ref 67, .int (nI a), .int (nI b), .int (nI w), .int (nI 0), u.1, u.2] [] x_g σ1 τ Q := by
    intro u σ1 hg hA
    refine ev_lj (α := Value × Value) (M := m_M_findAhead) (pc := 27) (st := []) (g := x_g) (Q := Q) (τ := τ) (pc P) (fun j u => [.ref 67, .int (nI a), .int (nI b), .int (nI w), .int (nI j), u.1, u.2]) (fun l σ' => Ag [85] σ σ' ∧ Ar σ' 85 7 (fun j => bs (fun i => eC P (fT P a b) l j i) (pn P))) (fun k hk u σ1 hI kk => ?_) (fun u σ1 hI => ?_) u σ1 ⟨hg, hA.congr (fun j _ => by simp only [eC, anb]; rw [bs_0])⟩
    · obtain ⟨hg, hI⟩ := hI
      have hP1 := hP.ag hg (by decide)
      obtain ⟨v1, v2, v3⟩ := hV.2.2.2.2 k hk
      have eo : σ1 77 (nI k).toNatClampNeg = nI (po P k) := by rw [cl7 (by omega)]; exact (hP1.2.2.2.2 k hk).1
      have eu : σ1 78 (nI k).toNatClampNeg = nI (pu P k) := by rw [cl7 (by omega)]; exact (hP1.2.2.2.2 k hk).2
      have join : Ev m_M_findAhead 87 [.ref 67, .int (nI a), .int (nI b), .int (nI w), .int (nI k), u.1, u.2] [.int (x_b (fT P a b k = true))] x_g σ1 τ Q := by
        refine ev_go 100 [27] ?_
        refine ⟨16, rfl, q_in (by omega) (by decide), ?_⟩
        rw [eo]
        refine ⟨7, rfl, q_in (by omega) (by decide), ?_⟩
        by_cases ht : fT P a b k = true
        · refine br_f (xb1 ht) ?_
          refine ⟨16, rfl, q_in (by omega) (by decide), ?_⟩
          refine ⟨7, rfl, q_in (by omega) (by decide), ?_⟩
          rw [eu, hI.get (by omega) (by omega), q_shl1 (by omega), q_or, cl7 (by omega)]
          show Ev m_M_findAhead 27 [.ref 67, .int (nI a), .int (nI b), .int (nI w), .int (nI k + 1), _, _] [] x_g _ τ Q
          rw [nI_1]
          refine kk (_, _) _ ⟨hg.row (by decide), ?_⟩
          refine (hI.orb (e := fun j i => eC P (fT P a b) k j i) v2).congr (fun j _ => bs_ext (fun i _ => ?_))
          simp only [eC, anb, ht, Bool.true_and]
          refine or_r ?_
          rw [Bool.beq_comm (a := j), Bool.beq_comm (a := i)]
        · refine br_t (xb0 ht) ?_
          refine ⟨7, rfl, q_in (by omega) (by decide), ?_⟩
          rw [hI.get (by omega) (by omega), show (0 : Int32) = nI 0 from rfl, q_or, cl7 (by omega), Nat.or_zero]
          show Ev m_M_findAhead 27 [.ref 67, .int (nI a), .int (nI b), .int (nI w), .int (nI k + 1), _, _] [] x_g _ τ Q
          rw [nI_1]
          refine kk (_, _) _ ⟨hg.row (by decide), hI.up.congr (fun j _ => ?_)⟩
          simp only [Bool.not_eq_true] at ht
          simp only [nup]
          by_cases e1 : j = po P k
          · subst e1
            rw [if_pos rfl]
            exact bs_ext (fun i _ => by simp [eC, anb, ht])
          · rw [if_neg e1]
            exact bs_ext (fun i _ => by simp [eC, anb, ht])
      refine ev_go 100 [87] ?_
      refine br_f (by rw [hP1.2.1]; exact nI_ge hk (by omega)) ?_
      refine e_M_has σ1 τ ha (by omega) _ ?_
      by_cases t1 : a.testBit k = true
      · refine bn_t (xb1 t1) ?_
        rw [x_b_f (by simp [fT, t1])] at join
        exact join
      refine bn_f (xb0 t1) ?_
      refine ⟨16, rfl, q_in (by omega) (by decide), ?_⟩
      rw [eo]
      refine e_M_has σ1 τ hb (by omega) _ ?_
      by_cases t2 : b.testBit (po P k) = true
      · refine bn_t (xb1 t2) ?_
        rw [x_b_f (by simp [fT, t2])] at join
        exact join
      refine bn_f (xb0 t2) ?_
      refine ⟨16, rfl, q_in (by omega) (by decide), ?_⟩
      rw [eu]
      refine e_M_has σ1 τ hb (by omega) _ ?_
      by_cases t3 : b.testBit (pu P k) = true
      · refine bn_t (xb1 t3) ?_
        rw [x_b_f (by simp [fT, t3])] at join
        exact join
      refine bn_f (xb0 t3) ?_
      refine e_M_isTelling σ1 τ hP1 hV hk _ ?_
      by_cases t4 : tl P k = true
      · refine br_f (xb1 t4) ?_
        rw [x_b_t (by simp [fT, t1, t2, t3, t4])] at join
        exact join
      · refine br_t (xb0 t4) ?_
        rw [x_b_f (by simp [fT, t4])] at join
        exact join
    · refine ev_go 100 [131] ?_
      refine br_t (by rw [hI.1 67 (by decide), hP.2.1]; exact nI_le (Nat.le_refl _) (by omega)) ?_
      exact third _ _ hI.1 hI.2
  refine ev_go 100 [3] ?_
  refine ev_lp (M := m_M_findAhead) (pc := 3) (st := []) (g := x_g) (Q := Q) (τ := τ) 7 (fun k => [.ref 67, .int (nI a), .int (nI b), .int (nI w), .int (nI k), .null, .null]) (fun k σ' => Ag [85] σ σ' ∧ Ar σ' 85 k (fun j => 0)) (fun k hk σ1 hI kk => ?_) (fun σ1 hI => ?_) σ ⟨Ag.refl, fun j hj => absurd hj (Nat.not_lt_zero j)⟩
  · refine ev_go 100 [3] ?_
    refine br_f (nI_ge (b := 7) hk (by decide)) ?_
    refine ⟨7, rfl, q_in (by omega) (by decide), ?_⟩
    show Ev m_M_findAhead 3 [.ref 67, .int (nI a), .int (nI b), .int (nI w), .int (nI k + 1), .null, .null] [] x_g _ τ Q
    rw [nI_1, cl7 (by omega)]
    refine kk _ ⟨hI.1.row (by decide), fun j hj => ?_⟩
    rw [x_row_eq]
    simp only [upd]
    by_cases e : j = k
    · rw [if_pos e]
      rfl
    · rw [if_neg e]
      exact hI.2 j (by omega)
  · refine ev_go 100 [27] ?_
    refine br_t (nI_le (a := 7) (Nat.le_refl 7) (by decide)) ?_
    exact second (_, _) σ1 hI.1 hI.2
