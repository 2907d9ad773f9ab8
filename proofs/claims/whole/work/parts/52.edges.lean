/-! WHO IS TOLD AHEAD OF WHOM: e j i, i is told to have gone ahead of j -/
def eC (P : xP) (f : Nat → Bool) (c : Nat) (j i : Nat) : Bool := anb (fun k => f k && (po P k == j && pu P k == i)) c
def wt (P : xP) (i j : Nat) : Bool := !(pk P i == 3) && !(pk P j == 3) && !(pf P i == 10) && !(pf P j == 10) && decide (pf P j + 2 ≤ pf P i)
def eW (P : xP) (t : Nat → Bool) (j i : Nat) : Bool := decide (i < pn P) && (decide (j < pn P) && (t i && (t j && wt P i j)))
def ed (P : xP) (f t : Nat → Bool) (w : Bool) (j i : Nat) : Bool := eC P f (pc P) j i || (w && eW P t j i)
theorem eC_lt {P : xP} (hV : PV P) {f : Nat → Bool} {j i : Nat} (h : eC P f (pc P) j i = true) : i < pn P ∧ j < pn P ∧ i ≠ j := by
  obtain ⟨k, hk, h⟩ := anb_iff.mp h
  simp only [Bool.and_eq_true, beq_iff_eq] at h
  obtain ⟨-, rfl, rfl⟩ := h
  obtain ⟨a, b, c⟩ := hV.2.2.2.2 k hk
  exact ⟨b, a, fun z => c z.symm⟩
theorem eW_lt {P : xP} {t : Nat → Bool} {j i : Nat} (h : eW P t j i = true) : i < pn P ∧ j < pn P ∧ i ≠ j := by
  simp only [eW, wt, Bool.and_eq_true, decide_eq_true_eq] at h
  refine ⟨h.1, h.2.1, fun z => ?_⟩
  subst z
  have := h.2.2.2.2.2
  omega
theorem ed_lt {P : xP} (hV : PV P) {f t : Nat → Bool} {w : Bool} {j i : Nat} (h : ed P f t w j i = true) : i < pn P ∧ j < pn P ∧ i ≠ j := by
  simp only [ed, Bool.or_eq_true, Bool.and_eq_true] at h
  rcases h with h | h
  · exact eC_lt hV h
  · exact eW_lt h.2
/-- the graph's head -/
def GH (σ : xS) (n : Nat) : Prop := σ 31 0 = nI n ∧ σ 31 1 = nI (2 ^ n - 1)
theorem GH.ag {σ σ' : xS} {n : Nat} {L : List Nat} (h : GH σ n) (hA : Ag L σ σ') (hL : 31 ∉ L) : GH σ' n := by
  unfold GH
  rw [hA 31 hL]
  exact h
theorem e_G_clear (σ : xS) (τ : xL) {n : Nat} (hn : n ≤ 7) {v : Int32} (hv : v = nI n) : Rs m_G_clear [.ref 31, .int v] σ τ none (fun σ' => Ag [31, 32] σ σ' ∧ GH σ' n ∧ Ar σ' 32 7 (fun j => bs (fun _ => false) n)) := by
  intro Q h
  subst hv
  refine ev_go 100 [] ?_
  refine e_J_fill _ τ 32 7 0 rfl (by decide) _ ?_
  have e1 : (1 : Int32) <<< (nI n &&& 31) - 1 = nI (2 ^ n - 1) := by
    rw [q_shl1 (by omega)]
    exact pk_sub (a := 2 ^ n) (b := 1) (Nat.one_le_two_pow)
  rw [e1]
  refine h _ ⟨?_, ⟨?_, ?_⟩, ?_⟩
  · exact ((Ag.refl.row (by decide)).row (by decide)).row (by decide)
  · rfl
  · rfl
  · intro j hj
    rw [bs_0]
    show (if j < 7 then (0 : Int32) else _) = _
    rw [if_pos hj]
    rfl
theorem e_G_addCrossings (σ : xS) (τ : xL) {P : xP} (hP : PC σ 17 P) (hV : PV P) {e : Nat → Nat → Bool} (hA : Ar σ 32 7 (fun j => bs (e j) (pn P))) : Rs m_G_addCrossings [.ref 31, .ref 17] σ τ none (fun σ' => Ag [32] σ σ' ∧ Ar σ' 32 7 (fun j => bs (fun i => e j i || eC P (tl P) (pc P) j i) (pn P))) := by
  intro Q h
  have h7 := hV.1
  have h16 := hV.2.1
  refine ev_go 100 [2] ?_
  refine ev_lp (M := m_G_addCrossings) (pc := 2) (st := []) (g := x_g) (Q := Q) (τ := τ) (pc P) (fun k => [.ref 31, .ref 17, .int (nI k)]) (fun k σ' => Ag [32] σ σ' ∧ Ar σ' 32 7 (fun j => bs (fun i => e j i || eC P (tl P) k j i) (pn P))) (fun k hk σ1 hI kk => ?_) (fun σ1 hI => ?_) σ ⟨Ag.refl, by simpa [eC, anb] using hA⟩
  · obtain ⟨hg, hI⟩ := hI
    have hP1 := hP.ag hg (by decide)
    obtain ⟨v1, v2, v3⟩ := hV.2.2.2.2 k hk
    have eo : σ1 21 (nI k).toNatClampNeg = nI (po P k) := by rw [cl7 (by omega)]; exact (hP1.2.2.2.2 k hk).1
    have eu : σ1 22 (nI k).toNatClampNeg = nI (pu P k) := by rw [cl7 (by omega)]; exact (hP1.2.2.2.2 k hk).2
    refine ev_go 100 [2] ?_
    refine br_f (by rw [hP1.2.1]; exact nI_ge hk (by omega)) ?_
    refine e_P_tells σ1 τ hP1 hV hk _ ?_
    by_cases ht : tl P k = true
    · refine br_f (xb1 ht) ?_
      refine ⟨16, rfl, q_in (by omega) (by decide), ?_⟩
      rw [eo]
      refine ⟨7, rfl, q_in (by omega) (by decide), ?_⟩
      refine ⟨16, rfl, q_in (by omega) (by decide), ?_⟩
      refine ⟨7, rfl, q_in (by omega) (by decide), ?_⟩
      rw [eu, hI.get (by omega) (by omega), q_shl1 (by omega), q_or, cl7 (by omega)]
      show Ev m_G_addCrossings 2 [.ref 31, .ref 17, .int (nI k + 1)] [] x_g _ τ Q
      rw [nI_1]
      refine kk _ ⟨hg.row (by decide), ?_⟩
      refine (hI.orb (e := fun j i => e j i || eC P (tl P) k j i) v2).congr (fun j _ => bs_ext (fun i _ => ?_))
      simp only [eC, anb, ht, Bool.true_and, Bool.or_assoc]
      refine or_r (or_r ?_)
      rw [Bool.beq_comm (a := j), Bool.beq_comm (a := i)]
    · refine br_t (xb0 ht) ?_
      show Ev m_G_addCrossings 2 [.ref 31, .ref 17, .int (nI k + 1)] [] x_g _ τ Q
      rw [nI_1]
      refine kk _ ⟨hg, hI.congr (fun j _ => bs_ext (fun i _ => ?_))⟩
      simp only [Bool.not_eq_true] at ht
      simp [eC, anb, ht]
  · refine ev_go 100 [2] ?_
    refine br_t (by rw [hI.1 17 (by decide), hP.2.1]; exact nI_le (Nat.le_refl _) (by omega)) ?_
    exact h _ hI
theorem e_P_windTells (σ : xS) (τ : xL) {P : xP} (hP : PC σ 17 P) (hV : PV P) {i j : Nat} (hi : i < pn P) (hj : j < pn P) : Rn m_P_windTells [.ref 17, .int (nI i), .int (nI j)] σ τ (some (.int (x_b ((pw P == 1 && wt P i j) = true)))) σ τ := by
  intro Q h
  have h7 := hV.1
  obtain ⟨a1, a2, a3⟩ := hV.2.2.2.1 i hi
  obtain ⟨b1, b2, b3⟩ := hV.2.2.2.1 j hj
  have hw := hV.2.2.1
  have e1 : σ 18 (nI i).toNatClampNeg = nI (pk P i) := by rw [cl7 (by omega)]; exact (hP.2.2.2.1 i hi).1
  have e2 : σ 18 (nI j).toNatClampNeg = nI (pk P j) := by rw [cl7 (by omega)]; exact (hP.2.2.2.1 j hj).1
  have f1 : σ 20 (nI i).toNatClampNeg = nI (pf P i) := by rw [cl7 (by omega)]; exact (hP.2.2.2.1 i hi).2.2
  have f2 : σ 20 (nI j).toNatClampNeg = nI (pf P j) := by rw [cl7 (by omega)]; exact (hP.2.2.2.1 j hj).2.2
  have hsub : nI (pf P i) - nI (pf P j) < 2 ↔ ¬ pf P j + 2 ≤ pf P i := by
    rw [Int32.lt_iff_toInt_lt, q_sub_toInt (by omega) (by omega), show ((2 : Int32)).toInt = 2 from by decide]
    omega
  have hq : (pw P == 1 && wt P i j) = true ↔ pw P = 1 ∧ (¬ pk P i = 3 ∧ ¬ pk P j = 3) ∧ (¬ pf P i = 10 ∧ ¬ pf P j = 10) ∧ pf P j + 2 ≤ pf P i := by
    simp only [wt, Bool.and_eq_true, beq_iff_eq, Bool.not_eq_true', beq_eq_false_iff_ne, decide_eq_true_eq, ne_eq]
    constructor
    · rintro ⟨x1, ⟨⟨⟨x2, x3⟩, x4⟩, x5⟩, x6⟩
      exact ⟨x1, ⟨x2, x3⟩, ⟨x4, x5⟩, x6⟩
    · rintro ⟨x1, ⟨x2, x3⟩, ⟨x4, x5⟩, x6⟩
      exact ⟨x1, ⟨⟨⟨x2, x3⟩, x4⟩, x5⟩, x6⟩
  have fin : ∀ (u v : Prop) [Decidable u] [Decidable v], (u ↔ (¬ pk P i = 3 ∧ ¬ pk P j = 3)) → (v ↔ (¬ pf P i = 10 ∧ ¬ pf P j = 10)) → Ev m_P_windTells 55 [.ref 17, .int (nI i), .int (nI j), .int (x_b u), .int (x_b v)] [] x_g σ τ Q := by
    intro u v _ _ hu hv
    refine ev_go 100 [] ?_
    by_cases w1 : pw P = 1
    · refine bn_f (by rw [hP.2.2.1, w1]; rfl) ?_
      by_cases hu1 : u
      · refine br_f (xb1 hu1) ?_
        by_cases hv1 : v
        · refine br_f (xb1 hv1) ?_
          refine ⟨7, rfl, q_in (by omega) (by decide), ?_⟩
          refine ⟨7, rfl, q_in (by omega) (by decide), ?_⟩
          rw [f1, f2]
          by_cases hd : pf P j + 2 ≤ pf P i
          · refine br_f (fun z => hsub.mp z hd) ?_
            rw [x_b_t (hq.mpr ⟨w1, hu.mp hu1, hv.mp hv1, hd⟩)] at h
            exact ⟨Or.inr rfl, h⟩
          · refine br_t (hsub.mpr hd) ?_
            rw [x_b_f (fun z => hd (hq.mp z).2.2.2)] at h
            exact ⟨Or.inl rfl, h⟩
        · refine br_t (xb0 hv1) ?_
          rw [x_b_f (fun z => hv1 (hv.mpr (hq.mp z).2.2.1))] at h
          exact ⟨Or.inl rfl, h⟩
      · refine br_t (xb0 hu1) ?_
        rw [x_b_f (fun z => hu1 (hu.mpr (hq.mp z).2.1))] at h
        exact ⟨Or.inl rfl, h⟩
    · refine bn_t (fun z => w1 ((nI_eq (b := 1) (by omega) (by decide)).mp (hP.2.2.1 ▸ z))) ?_
      rw [x_b_f (fun z => w1 (hq.mp z).1)] at h
      exact ⟨Or.inl rfl, h⟩
  have two : ∀ (u : Prop) [Decidable u], (u ↔ (¬ pk P i = 3 ∧ ¬ pk P j = 3)) → Ev m_P_windTells 26 [.ref 17, .int (nI i), .int (nI j), .int (x_b u), .null] [] x_g σ τ Q := by
    intro u _ hu
    refine ev_go 100 [55] ?_
    refine ⟨7, rfl, q_in (by omega) (by decide), ?_⟩
    rw [f1]
    by_cases g1 : pf P i = 10
    · refine br_t (by rw [g1]; rfl) ?_
      have := fin u False hu (by simp [g1])
      rwa [x_b_f (p := False) id] at this
    · refine br_f (fun z => g1 ((nI_eq (b := 10) (by omega) (by decide)).mp z)) ?_
      refine ⟨7, rfl, q_in (by omega) (by decide), ?_⟩
      rw [f2]
      by_cases g2 : pf P j = 10
      · refine br_t (by rw [g2]; rfl) ?_
        have := fin u False hu (by simp [g2])
        rwa [x_b_f (p := False) id] at this
      · refine br_f (fun z => g2 ((nI_eq (b := 10) (by omega) (by decide)).mp z)) ?_
        have := fin u True hu (by simp [g1, g2])
        rwa [x_b_t trivial] at this
  refine ev_go 100 [26] ?_
  refine ⟨7, rfl, q_in (by omega) (by decide), ?_⟩
  rw [e1]
  by_cases g1 : pk P i = 3
  · refine br_t (by rw [g1]; rfl) ?_
    have := two False (by simp [g1])
    rwa [x_b_f (p := False) id] at this
  · refine br_f (fun z => g1 ((nI_eq (b := 3) (by omega) (by decide)).mp z)) ?_
    refine ⟨7, rfl, q_in (by omega) (by decide), ?_⟩
    rw [e2]
    by_cases g2 : pk P j = 3
    · refine br_t (by rw [g2]; rfl) ?_
      have := two False (by simp [g2])
      rwa [x_b_f (p := False) id] at this
    · refine br_f (fun z => g2 ((nI_eq (b := 3) (by omega) (by decide)).mp z)) ?_
      have := two True (by simp [g1, g2])
      rwa [x_b_t trivial] at this
theorem e_G_addWind (σ : xS) (τ : xL) {P : xP} (hP : PC σ 17 P) (hV : PV P) {e : Nat → Nat → Bool} (hA : Ar σ 32 7 (fun j => bs (e j) (pn P))) : Rs m_G_addWind [.ref 31, .ref 17] σ τ none (fun σ' => Ag [32] σ σ' ∧ Ar σ' 32 7 (fun j => bs (fun i => e j i || (pw P == 1 && eW P (fun _ => true) j i)) (pn P))) := by
  intro Q h
  have h7 := hV.1
  refine ev_go 100 [2] ?_
  refine ev_lp (M := m_G_addWind) (pc := 2) (st := []) (g := x_g) (Q := Q) (τ := τ) (pn P) (fun k => [.ref 31, .ref 17, .int (nI k), lc .null (.int (nI (pn P))) k]) (fun k σ' => Ag [32] σ σ' ∧ Ar σ' 32 7 (fun j => bs (fun i => e j i || (decide (i < k) && (decide (j < pn P) && (pw P == 1 && wt P i j)))) (pn P))) (fun k hk σ1 hI kk => ?_) (fun σ1 hI => ?_) σ ⟨Ag.refl, by simpa using hA⟩
  · refine ev_go 100 [12] ?_
    refine br_f (by rw [hI.1 17 (by decide), hP.1]; exact nI_ge hk (by omega)) ?_
    refine ev_lp (M := m_G_addWind) (pc := 12) (st := []) (g := x_g) (Q := Q) (τ := τ) (pn P) (fun l => [.ref 31, .ref 17, .int (nI k), .int (nI l)]) (fun l σ' => Ag [32] σ σ' ∧ Ar σ' 32 7 (fun j => bs (fun i => (e j i || (decide (i < k) && (decide (j < pn P) && (pw P == 1 && wt P i j)))) || (i == k && (decide (j < l) && (pw P == 1 && wt P i j)))) (pn P))) (fun l hl σ2 hJ kk2 => ?_) (fun σ2 hJ => ?_) σ1 ⟨hI.1, by simpa using hI.2⟩
    · obtain ⟨hg, hJ⟩ := hJ
      have hP1 := hP.ag hg (by decide)
      refine ev_go 100 [12] ?_
      refine br_f (by rw [hP1.1]; exact nI_ge hl (by omega)) ?_
      refine e_P_windTells σ2 τ hP1 hV hk hl _ ?_
      by_cases ht : (pw P == 1 && wt P k l) = true
      · refine br_f (xb1 ht) ?_
        refine ⟨7, rfl, q_in (by omega) (by decide), ?_⟩
        refine ⟨7, rfl, q_in (by omega) (by decide), ?_⟩
        rw [hJ.get (by omega) (by omega), q_shl1 (by omega), q_or, cl7 (by omega)]
        show Ev m_G_addWind 12 [.ref 31, .ref 17, .int (nI k), .int (nI l + 1)] [] x_g _ τ Q
        rw [nI_1]
        refine kk2 _ ⟨hg.row (by decide), ?_⟩
        refine (hJ.orb (e := fun j i => (e j i || (decide (i < k) && (decide (j < pn P) && (pw P == 1 && wt P i j)))) || (i == k && (decide (j < l) && (pw P == 1 && wt P i j)))) hk).congr (fun j _ => bs_ext (fun i _ => ?_))
        rw [Bool.or_assoc]
        refine or_r ?_
        by_cases e1 : i = k
        · subst e1
          by_cases e2 : j = l
          · subst e2
            simp [ht]
          · by_cases e3 : j < l
            · simp [e2, e3, show j < l + 1 by omega]
            · simp [e2, e3, show ¬ j < l + 1 by omega]
        · have e1' : (i == k) = false := beq_eq_false_iff_ne.mpr e1
          rw [e1']
          cases (j == l) <;> rfl
      · refine br_t (xb0 ht) ?_
        show Ev m_G_addWind 12 [.ref 31, .ref 17, .int (nI k), .int (nI l + 1)] [] x_g _ τ Q
        rw [nI_1]
        refine kk2 _ ⟨hg, hJ.congr (fun j _ => bs_ext (fun i _ => ?_))⟩
        refine or_r ?_
        by_cases e1 : i = k
        · subst e1
          by_cases e2 : j = l
          · subst e2
            simp only [Bool.not_eq_true] at ht
            simp [ht]
          · by_cases e3 : j < l
            · simp [e3, show j < l + 1 by omega]
            · simp [e3, show ¬ j < l + 1 by omega]
        · have e1' : (i == k) = false := beq_eq_false_iff_ne.mpr e1
          rw [e1']
          rfl
    · refine ev_go 100 [2] ?_
      refine br_t (by rw [hJ.1 17 (by decide), hP.1]; exact nI_le (Nat.le_refl _) (by omega)) ?_
      show Ev m_G_addWind 2 [.ref 31, .ref 17, .int (nI k + 1), .int (nI (pn P))] [] x_g _ τ Q
      rw [nI_1]
      refine kk _ ⟨hJ.1, hJ.2.congr (fun j _ => bs_ext (fun i _ => ?_))⟩
      rw [Bool.or_assoc]
      refine or_r ?_
      by_cases e1 : i = k
      · subst e1
        simp
      · by_cases e3 : i < k
        · simp [e1, e3, show i < k + 1 by omega]
        · simp [e1, e3, show ¬ i < k + 1 by omega]
  · refine ev_go 100 [2] ?_
    refine br_t (by rw [hI.1 17 (by decide), hP.1]; exact nI_le (Nat.le_refl _) (by omega)) ?_
    refine h _ ⟨hI.1, hI.2.congr (fun j _ => bs_ext (fun i hi => ?_))⟩
    simp [eW, hi]
    cases (pw P == 1) <;> simp
theorem e_G_takeAll (σ : xS) (τ : xL) {P : xP} (hP : PC σ 17 P) (hV : PV P) : Rs m_G_takeAll [.ref 31, .ref 17] σ τ none (fun σ' => Ag [31, 32] σ σ' ∧ GH σ' (pn P) ∧ Ar σ' 32 7 (fun j => bs (ed P (tl P) (fun _ => true) (pw P == 1) j) (pn P))) := by
  intro Q h
  refine ev_go 100 [] ?_
  refine e_G_clear σ τ hV.1 hP.1 _ (fun σ1 h1 => ?_)
  have hP1 := hP.ag h1.1 (by decide)
  refine e_G_addCrossings σ1 τ hP1 hV h1.2.2 _ (fun σ2 h2 => ?_)
  have hP2 := hP1.ag h2.1 (by decide)
  refine e_G_addWind σ2 τ hP2 hV h2.2 _ (fun σ3 h3 => ?_)
  refine h _ ⟨(h1.1.trans (h2.1.mono (by decide))).trans (h3.1.mono (by decide)), (h1.2.1.ag h2.1 (by decide)).ag h3.1 (by decide), h3.2.congr (fun j _ => bs_ext (fun i _ => ?_))⟩
  simp [ed]
