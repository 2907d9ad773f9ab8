/-! WHO SURELY WENT AHEAD: wr e n i j, i surely ahead of j -/
def wr (e : Nat → Nat → Bool) : Nat → Nat → Nat → Bool
  | 0, i, j => e j i
  | m + 1, i, j => wr e m i j || (wr e m i m && wr e m m j)
theorem wr_r (e : Nat → Nat → Bool) (m j : Nat) : wr e (m + 1) m j = wr e m m j := by
  simp only [wr]
  cases wr e m m j <;> simp
theorem wr_c (e : Nat → Nat → Bool) (m i : Nat) : wr e (m + 1) i m = wr e m i m := by
  simp only [wr]
  cases wr e m i m <;> simp
/-- a row in which those below k are new -/
theorem Ar.nx {σ : xS} {q n k v : Nat} {A B : Nat → Nat} (h : Ar σ q n (fun i => if i < k then B i else A i)) (hv : v = B k) : Ar (x_row σ q (upd (σ q) k (nI v))) q n (fun i => if i < k + 1 then B i else A i) := by
  refine h.up.congr (fun j _ => ?_)
  simp only [nup]
  by_cases e : j = k
  · subst e
    simp [hv]
  · rw [if_neg e]
    by_cases e2 : j < k
    · rw [if_pos e2, if_pos (by omega)]
    · rw [if_neg e2, if_neg (by omega)]
theorem Ar.nx0 {σ : xS} {q n k : Nat} {A B : Nat → Nat} (h : Ar σ q n (fun i => if i < k then B i else A i)) (hv : A k = B k) : Ar σ q n (fun i => if i < k + 1 then B i else A i) := by
  refine h.congr (fun j _ => ?_)
  by_cases e : j = k
  · subst e
    simp [hv]
  · by_cases e2 : j < k
    · rw [if_pos e2, if_pos (by omega)]
    · rw [if_neg e2, if_neg (by omega)]
theorem e_G_close (σ : xS) (τ : xL) {n : Nat} (h7 : n ≤ 7) (hG : GH σ n) {e : Nat → Nat → Bool} (hB : Ar σ 32 7 (fun j => bs (e j) n)) : Rs m_G_close [.ref 31] σ τ none (fun σ' => Ag [33] σ σ' ∧ Ar σ' 33 n (fun i => bs (wr e n i) n)) := by
  intro Q h
  have two : ∀ (u : Value) (σ1 : xS), Ag [33] σ σ1 → Ar σ1 33 n (fun i => bs (wr e 0 i) n) → Ev m_G_close 67 [.ref 31, .int (nI 0), u] [] x_g σ1 τ Q := by
    intro u σ1 hg hA
    refine ev_lj (α := Value) (M := m_G_close) (pc := 67) (st := []) (g := x_g) (Q := Q) (τ := τ) n (fun k u => [.ref 31, .int (nI k), u]) (fun m σ' => Ag [33] σ σ' ∧ Ar σ' 33 n (fun i => bs (wr e m i) n)) (fun m hm u σ1 hI kk => ?_) (fun u σ1 hI => ?_) u σ1 ⟨hg, hA⟩
    · refine ev_go 100 [77] ?_
      refine br_f (by rw [hI.1 31 (by decide), hG.1]; exact nI_ge hm (by omega)) ?_
      refine ev_lp (M := m_G_close) (pc := 77) (st := []) (g := x_g) (Q := Q) (τ := τ) n (fun k => [.ref 31, .int (nI m), .int (nI k)]) (fun k σ' => Ag [33] σ σ' ∧ Ar σ' 33 n (fun i => if i < k then bs (wr e (m + 1) i) n else bs (wr e m i) n)) (fun k hk σ2 hJ kk2 => ?_) (fun σ2 hJ => ?_) σ1 ⟨hI.1, by simpa using hI.2⟩
      · obtain ⟨hg2, hJ⟩ := hJ
        have r1 : σ2 33 (nI k).toNatClampNeg = nI (bs (wr e m k) n) := by
          have := hJ.get hk (by omega)
          rwa [if_neg (Nat.lt_irrefl k)] at this
        have r2 : σ2 33 (nI m).toNatClampNeg = nI (bs (wr e m m) n) := by
          rw [hJ.get hm (by omega)]
          by_cases z : m < k
          · rw [if_pos z]
            exact congrArg nI (bs_ext (fun j _ => wr_r e m j))
          · rw [if_neg z]
        refine ev_go 100 [77] ?_
        refine br_f (by rw [hg2 31 (by decide), hG.1]; exact nI_ge hk (by omega)) ?_
        refine ⟨7, rfl, q_in (by omega) (by decide), ?_⟩
        rw [r1]
        refine e_S_has σ2 τ (Nat.lt_trans (bs7 _ h7) (by decide)) (by omega) _ ?_
        by_cases t : (bs (wr e m k) n).testBit m = true
        · refine br_f (xb1 t) ?_
          refine ⟨7, rfl, q_in (by omega) (by decide), ?_⟩
          refine ⟨7, rfl, q_in (by omega) (by decide), ?_⟩
          refine ⟨7, rfl, q_in (by omega) (by decide), ?_⟩
          rw [r1, r2, q_or, cl7 (by omega)]
          show Ev m_G_close 77 [.ref 31, .int (nI m), .int (nI k + 1)] [] x_g _ τ Q
          rw [nI_1]
          refine kk2 _ ⟨hg2.row (by decide), hJ.nx ?_⟩
          rw [bs_orb]
          rw [bs_bit] at t
          simp only [Bool.and_eq_true] at t
          exact bs_ext (fun j _ => by simp [wr, t.2])
        · refine br_t (xb0 t) ?_
          show Ev m_G_close 77 [.ref 31, .int (nI m), .int (nI k + 1)] [] x_g _ τ Q
          rw [nI_1]
          refine kk2 _ ⟨hg2, hJ.nx0 ?_⟩
          rw [bs_bit] at t
          simp [hm] at t
          exact bs_ext (fun j _ => by simp [wr, t])
      · refine ev_go 100 [67] ?_
        refine br_t (by rw [hJ.1 31 (by decide), hG.1]; exact nI_le (Nat.le_refl _) (by omega)) ?_
        show Ev m_G_close 67 [.ref 31, .int (nI m + 1), .int (nI n)] [] x_g _ τ Q
        rw [nI_1]
        exact kk _ _ ⟨hJ.1, hJ.2.congr (fun i hi => by rw [if_pos hi])⟩
    · refine ev_go 100 [] ?_
      refine br_t (by rw [hI.1 31 (by decide), hG.1]; exact nI_le (Nat.le_refl _) (by omega)) ?_
      exact h _ hI
  refine ev_go 100 [10] ?_
  refine e_J_fill σ τ 33 7 0 rfl (by decide) _ ?_
  refine ev_lj (α := Value) (M := m_G_close) (pc := 10) (st := []) (g := x_g) (Q := Q) (τ := τ) n (fun k u => [.ref 31, .int (nI k), u]) (fun m σ' => Ag [33] σ σ' ∧ Ar σ' 33 n (fun i => bs (fun j => decide (j < m) && e j i) n)) (fun m hm u σ1 hI kk => ?_) (fun u σ1 hI => ?_) .null _ ⟨Ag.refl.row (by decide), fun j hj => ?_⟩
  · refine ev_go 100 [20] ?_
    refine br_f (by rw [hI.1 31 (by decide), hG.1]; exact nI_ge hm (by omega)) ?_
    refine ev_lp (M := m_G_close) (pc := 20) (st := []) (g := x_g) (Q := Q) (τ := τ) n (fun k => [.ref 31, .int (nI m), .int (nI k)]) (fun k σ' => Ag [33] σ σ' ∧ Ar σ' 33 n (fun i => bs (fun j => (decide (j < m) && e j i) || (j == m && (decide (i < k) && e j i))) n)) (fun k hk σ2 hJ kk2 => ?_) (fun σ2 hJ => ?_) σ1 ⟨hI.1, by simpa using hI.2⟩
    · obtain ⟨hg2, hJ⟩ := hJ
      refine ev_go 100 [20] ?_
      refine br_f (by rw [hg2 31 (by decide), hG.1]; exact nI_ge hk (by omega)) ?_
      refine ⟨7, rfl, q_in (by omega) (by decide), ?_⟩
      rw [(hB.ag hg2 (by decide)).get (by omega) (by omega)]
      refine e_S_has σ2 τ (Nat.lt_trans (bs7 _ h7) (by decide)) (by omega) _ ?_
      have eb : (bs (e m) n).testBit k = e m k := by rw [bs_bit]; simp [hk]
      by_cases t : (bs (e m) n).testBit k = true
      · refine br_f (xb1 t) ?_
        rw [eb] at t
        refine ⟨7, rfl, q_in (by omega) (by decide), ?_⟩
        refine ⟨7, rfl, q_in (by omega) (by decide), ?_⟩
        rw [hJ.get (by omega) (by omega), q_shl1 (by omega), q_or, cl7 (by omega)]
        show Ev m_G_close 20 [.ref 31, .int (nI m), .int (nI k + 1)] [] x_g _ τ Q
        rw [nI_1]
        refine kk2 _ ⟨hg2.row (by decide), ?_⟩
        refine (hJ.orb (e := fun i j => (decide (j < m) && e j i) || (j == m && (decide (i < k) && e j i))) hm).congr (fun i _ => bs_ext (fun j _ => ?_))
        rw [Bool.or_assoc]
        refine or_r ?_
        by_cases e1 : j = m
        · subst e1
          by_cases e2 : i = k
          · subst e2
            simp [t]
          · by_cases e3 : i < k
            · simp [e2, e3, show i < k + 1 by omega]
            · simp [e2, e3, show ¬ i < k + 1 by omega]
        · have e1' : (j == m) = false := beq_eq_false_iff_ne.mpr e1
          rw [e1']
          cases (i == k) <;> rfl
      · refine br_t (xb0 t) ?_
        rw [eb] at t
        simp only [Bool.not_eq_true] at t
        show Ev m_G_close 20 [.ref 31, .int (nI m), .int (nI k + 1)] [] x_g _ τ Q
        rw [nI_1]
        refine kk2 _ ⟨hg2, hJ.congr (fun i _ => bs_ext (fun j _ => ?_))⟩
        refine or_r ?_
        by_cases e1 : j = m
        · subst e1
          by_cases e2 : i = k
          · subst e2
            simp [t]
          · by_cases e3 : i < k
            · simp [e3, show i < k + 1 by omega]
            · simp [e3, show ¬ i < k + 1 by omega]
        · have e1' : (j == m) = false := beq_eq_false_iff_ne.mpr e1
          rw [e1']
          rfl
    · refine ev_go 100 [10] ?_
      refine br_t (by rw [hJ.1 31 (by decide), hG.1]; exact nI_le (Nat.le_refl _) (by omega)) ?_
      show Ev m_G_close 10 [.ref 31, .int (nI m + 1), .int (nI n)] [] x_g _ τ Q
      rw [nI_1]
      refine kk _ _ ⟨hJ.1, hJ.2.congr (fun i hi => ?_)⟩
      refine bs_ext (fun j _ => ?_)
      by_cases e1 : j = m
      · subst e1
        simp [hi]
      · by_cases e3 : j < m
        · simp [e1, e3, show j < m + 1 by omega]
        · simp [e1, e3, show ¬ j < m + 1 by omega]
  · refine ev_go 100 [67] ?_
    refine br_t (by rw [hI.1 31 (by decide), hG.1]; exact nI_le (Nat.le_refl _) (by omega)) ?_
    exact two _ _ hI.1 (hI.2.congr (fun i hi => bs_ext (fun j hj => by simp [wr, hj])))
  · rw [x_row_eq]
    show (if j < 7 then (0 : Int32) else _) = _
    rw [if_pos (by omega)]
    show (0 : Int32) = nI (bs (fun x => decide (x < 0) && e x j) n)
    rw [show (fun x => decide (x < 0) && e x j) = (fun _ => false) from by funext x; simp, bs_0]
    rfl
theorem e_M_findSurely (σ : xS) (τ : xL) {n : Nat} (h7 : n ≤ 7) (hG : σ 67 10 = nI n) {e : Nat → Nat → Bool} (hB : Ar σ 85 n (fun j => bs (e j) n)) : Rs m_M_findSurely [.ref 67] σ τ none (fun σ' => Ag [86] σ σ' ∧ Ar σ' 86 n (fun j => bs (fun i => wr e n i j) n)) := by
  intro Q h
  have two : ∀ (u : Value) (σ1 : xS), Ag [86] σ σ1 → Ar σ1 86 n (fun j => bs (fun i => wr e 0 i j) n) → Ev m_M_findSurely 30 [.ref 67, .int (nI 0), u] [] x_g σ1 τ Q := by
    intro u σ1 hg hA
    refine ev_lj (α := Value) (M := m_M_findSurely) (pc := 30) (st := []) (g := x_g) (Q := Q) (τ := τ) n (fun k u => [.ref 67, .int (nI k), u]) (fun m σ' => Ag [86] σ σ' ∧ Ar σ' 86 n (fun j => bs (fun i => wr e m i j) n)) (fun m hm u σ1 hI kk => ?_) (fun u σ1 hI => ?_) u σ1 ⟨hg, hA⟩
    · refine ev_go 100 [40] ?_
      refine br_f (by rw [hI.1 67 (by decide), hG]; exact nI_ge hm (by omega)) ?_
      refine ev_lp (M := m_M_findSurely) (pc := 40) (st := []) (g := x_g) (Q := Q) (τ := τ) n (fun k => [.ref 67, .int (nI m), .int (nI k)]) (fun k σ' => Ag [86] σ σ' ∧ Ar σ' 86 n (fun j => if j < k then bs (fun i => wr e (m + 1) i j) n else bs (fun i => wr e m i j) n)) (fun k hk σ2 hJ kk2 => ?_) (fun σ2 hJ => ?_) σ1 ⟨hI.1, by simpa using hI.2⟩
      · obtain ⟨hg2, hJ⟩ := hJ
        have r1 : σ2 86 (nI k).toNatClampNeg = nI (bs (fun i => wr e m i k) n) := by
          have := hJ.get hk (by omega)
          rwa [if_neg (Nat.lt_irrefl k)] at this
        have r2 : σ2 86 (nI m).toNatClampNeg = nI (bs (fun i => wr e m i m) n) := by
          rw [hJ.get hm (by omega)]
          by_cases z : m < k
          · rw [if_pos z]
            exact congrArg nI (bs_ext (fun j _ => wr_c e m j))
          · rw [if_neg z]
        refine ev_go 100 [40] ?_
        refine br_f (by rw [hg2 67 (by decide), hG]; exact nI_ge hk (by omega)) ?_
        refine ⟨7, rfl, q_in (by omega) (by decide), ?_⟩
        refine ⟨7, rfl, q_in (by omega) (by decide), ?_⟩
        rw [r1]
        refine e_M_has σ2 τ (Nat.lt_trans (bs7 _ h7) (by decide)) (by omega) _ ?_
        by_cases t : (bs (fun i => wr e m i k) n).testBit m = true
        · refine br_f (xb1 t) ?_
          refine ⟨7, rfl, q_in (by omega) (by decide), ?_⟩
          refine ⟨7, rfl, q_in (by omega) (by decide), ?_⟩
          rw [r2, q_or, cl7 (by omega)]
          show Ev m_M_findSurely 40 [.ref 67, .int (nI m), .int (nI k + 1)] [] x_g _ τ Q
          rw [nI_1]
          refine kk2 _ ⟨hg2.row (by decide), hJ.nx ?_⟩
          rw [bs_orb]
          rw [bs_bit] at t
          simp only [Bool.and_eq_true] at t
          exact bs_ext (fun j _ => by simp [wr, t.2])
        · refine br_t (xb0 t) ?_
          refine ⟨7, rfl, q_in (by omega) (by decide), ?_⟩
          rw [show (0 : Int32) = nI 0 from rfl, q_or, cl7 (by omega), Nat.or_zero]
          show Ev m_M_findSurely 40 [.ref 67, .int (nI m), .int (nI k + 1)] [] x_g _ τ Q
          rw [nI_1]
          refine kk2 _ ⟨hg2.row (by decide), hJ.nx ?_⟩
          rw [bs_bit] at t
          simp [hm] at t
          exact bs_ext (fun j _ => by simp [wr, t])
      · refine ev_go 100 [30] ?_
        refine br_t (by rw [hJ.1 67 (by decide), hG]; exact nI_le (Nat.le_refl _) (by omega)) ?_
        show Ev m_M_findSurely 30 [.ref 67, .int (nI m + 1), .int (nI n)] [] x_g _ τ Q
        rw [nI_1]
        exact kk _ _ ⟨hJ.1, hJ.2.congr (fun i hi => by rw [if_pos hi])⟩
    · refine ev_go 100 [] ?_
      refine br_t (by rw [hI.1 67 (by decide), hG]; exact nI_le (Nat.le_refl _) (by omega)) ?_
      exact h _ hI
  refine ev_go 100 [2] ?_
  refine ev_lp (M := m_M_findSurely) (pc := 2) (st := []) (g := x_g) (Q := Q) (τ := τ) n (fun k => [.ref 67, .int (nI k), .null]) (fun k σ' => Ag [86] σ σ' ∧ Ar σ' 86 k (fun j => bs (fun i => wr e 0 i j) n)) (fun k hk σ1 hI kk => ?_) (fun σ1 hI => ?_) σ ⟨Ag.refl, fun j hj => absurd hj (Nat.not_lt_zero j)⟩
  · refine ev_go 100 [2] ?_
    refine br_f (by rw [hI.1 67 (by decide), hG]; exact nI_ge hk (by omega)) ?_
    refine ⟨7, rfl, q_in (by omega) (by decide), ?_⟩
    refine ⟨7, rfl, q_in (by omega) (by decide), ?_⟩
    rw [(hB.ag hI.1 (by decide)).get hk (by omega), cl7 (by omega)]
    show Ev m_M_findSurely 2 [.ref 67, .int (nI k + 1), .null] [] x_g _ τ Q
    rw [nI_1]
    refine kk _ ⟨hI.1.row (by decide), fun j hj => ?_⟩
    rw [x_row_eq]
    simp only [upd]
    by_cases e : j = k
    · rw [if_pos e, e]
      rfl
    · rw [if_neg e]
      exact hI.2 j (by omega)
  · refine ev_go 100 [30] ?_
    refine br_t (by rw [hI.1 67 (by decide), hG]; exact nI_le (Nat.le_refl _) (by omega)) ?_
    exact two _ _ hI.1 hI.2
/-- a ring there is -/
def rg (e : Nat → Nat → Bool) (n : Nat) : Bool := anb (fun i => wr e n i i) n
theorem e_M_isRing (σ : xS) (τ : xL) {n : Nat} (h7 : n ≤ 7) (hG : σ 67 10 = nI n) {e : Nat → Nat → Bool} (hB : Ar σ 85 n (fun j => bs (e j) n)) : Rs m_M_isRing [.ref 67] σ τ (some (.int (x_b (rg e n = true)))) (fun σ' => Ag [86] σ σ' ∧ Ar σ' 86 n (fun j => bs (fun i => wr e n i j) n)) := by
  intro Q h
  refine ev_go 100 [8] ?_
  refine e_M_findSurely σ τ h7 hG hB _ (fun σ1 h1 => ?_)
  have hG1 : σ1 67 10 = nI n := by rw [h1.1 67 (by decide)]; exact hG
  refine ev_iter (M := m_M_isRing) (pc := 8) (st := []) (g := x_g) (Q := Q) n (fun i => ([.ref 67, .int (x_b (anb (fun i => wr e n i i) i = true)), .int (nI i)], σ1, τ)) (fun i hi kk => ?_) ?_
  · dsimp only at kk ⊢
    have join : Ev m_M_isRing 38 [.ref 67, .int (x_b (anb (fun i => wr e n i i) i = true)), .int (nI i)] [.int (x_b (anb (fun i => wr e n i i) (i + 1) = true))] x_g σ1 τ Q := by
      refine ev_go 100 [8] ?_
      show Ev m_M_isRing 8 [.ref 67, .int (x_b (anb (fun i => wr e n i i) (i + 1) = true)), .int (nI i + 1)] [] x_g _ τ Q
      rw [nI_1]
      exact kk
    refine ev_go 100 [38] ?_
    refine br_f (by rw [hG1]; exact nI_ge hi (by omega)) ?_
    by_cases t1 : anb (fun i => wr e n i i) i = true
    · refine bn_t (xb1 t1) ?_
      rw [x_b_t (p := anb (fun i => wr e n i i) (i + 1) = true) (by simp [anb, t1])] at join
      exact join
    refine bn_f (xb0 t1) ?_
    refine ⟨7, rfl, q_in (by omega) (by decide), ?_⟩
    rw [h1.2.get hi (by omega)]
    refine e_M_has σ1 τ (Nat.lt_trans (bs7 _ h7) (by decide)) (by omega) _ ?_
    have eb : (bs (fun x => wr e n x i) n).testBit i = wr e n i i := by rw [bs_bit]; simp [hi]
    by_cases t : (bs (fun x => wr e n x i) n).testBit i = true
    · refine br_f (xb1 t) ?_
      rw [eb] at t
      rw [x_b_t (p := anb (fun i => wr e n i i) (i + 1) = true) (by simp [anb, t])] at join
      exact join
    · refine br_t (xb0 t) ?_
      rw [eb] at t
      rw [x_b_f (p := anb (fun i => wr e n i i) (i + 1) = true) (by simp only [anb, Bool.or_eq_true]; exact fun z => z.elim t1 t)] at join
      exact join
  · dsimp only
    refine ev_go 100 [8] ?_
    refine br_t (by rw [hG1]; exact nI_le (Nat.le_refl _) (by omega)) ?_
    exact ⟨x_b_01, h _ h1⟩
