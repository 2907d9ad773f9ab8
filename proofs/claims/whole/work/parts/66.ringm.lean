/-! THE MODEL'S RING -/
def FV (e : Nat → Nat → Bool) (n l t x : Nat) : Int32 := if fD e n l x ≤ t ∧ fD e n l x < n then nI (fD e n l x) else -9
theorem FV_eq {e : Nat → Nat → Bool} {n l t u x : Nat} (h7 : n ≤ 7) (ht : t < n) (htu : t ≤ u) : FV e n l u x = nI t ↔ fD e n l x = t := by
  unfold FV
  by_cases h : fD e n l x ≤ u ∧ fD e n l x < n
  · rw [if_pos h]
    exact nI_eq (by omega) (by omega)
  · rw [if_neg h]
    constructor
    · intro z
      exact absurd z.symm (nI_ne9 (by omega))
    · intro z
      omega
theorem FV_9 {e : Nat → Nat → Bool} {n l t x : Nat} (h7 : n ≤ 7) (ht : t < n) : FV e n l t x = -9 ↔ ¬ fD e n l x ≤ t := by
  unfold FV
  by_cases h : fD e n l x ≤ t ∧ fD e n l x < n
  · rw [if_pos h]
    constructor
    · intro z
      exact absurd z (nI_ne9 (by omega))
    · intro z
      omega
  · rw [if_neg h]
    constructor
    · intro _ z
      omega
    · intro _
      rfl
theorem e_M_findFar (σ : xS) (τ : xL) {n : Nat} (h7 : n ≤ 7) (hn : σ 67 10 = nI n) {e : Nat → Nat → Bool} (hB : Mr σ n e) {l : Nat} (hl : l < n) : Rs m_M_findFar [.ref 67, .int (nI l)] σ τ none (fun σ' => Ag [90] σ σ' ∧ ∀ x, x < n → σ' 90 x = FV e n l (n - 1) x) := by
  intro Q h
  have two : ∀ (u : Value × Value × Value) (σ1 : xS), Ag [90] σ σ1 → (∀ x, x < n → σ1 90 x = FV e n l 0 x) → Ev m_M_findFar 33 [.ref 67, .int (nI l), .int (nI 1), u.1, u.2.1, u.2.2] [] x_g σ1 τ Q := by
    intro u σ1 hg hF
    refine ev_lj (α := Value × Value × Value) (M := m_M_findFar) (pc := 33) (st := []) (g := x_g) (Q := Q) (τ := τ) (n - 1) (fun t u => [.ref 67, .int (nI l), .int (nI (t + 1)), u.1, u.2.1, u.2.2]) (fun t σ' => Ag [90] σ σ' ∧ ∀ x, x < n → σ' 90 x = FV e n l t x) (fun t ht u σ1 hI kk => ?_) (fun u σ1 hI => ?_) u σ1 ⟨hg, hF⟩
    · have hn1 : σ1 67 10 = nI n := by rw [hI.1 67 (by decide)]; exact hn
      refine ev_go 100 [45] ?_
      refine br_f (by rw [hn1]; exact nI_ge (by omega) (by omega)) ?_
      show Ev m_M_findFar 45 [.ref 67, .int (nI l), .int (nI (t + 1)), .int (nI l + 1), u.2.1, u.2.2] [] x_g σ1 τ Q
      rw [nI_1]
      refine ev_lj (α := Value × Value) (M := m_M_findFar) (pc := 45) (st := []) (g := x_g) (Q := Q) (τ := τ) (n - (l + 1)) (fun k u => [.ref 67, .int (nI l), .int (nI (t + 1)), .int (nI (l + 1 + k)), u.1, u.2]) (fun k σ' => Ag [90] σ σ' ∧ ∀ x, x < n → σ' 90 x = if x < l + 1 + k then FV e n l (t + 1) x else FV e n l t x) (fun k hk u σ2 hJ kk2 => ?_) (fun u σ2 hJ => ?_) (_, _) σ1 ⟨hI.1, fun x hx => ?_⟩
      · obtain ⟨i, hi⟩ : ∃ i, i = l + 1 + k := ⟨_, rfl⟩
        have hn2 : σ2 67 10 = nI n := by rw [hJ.1 67 (by decide)]; exact hn
        have hB2 : Ar σ2 85 7 (fun j => bs (e j) n) := Ar.ag (L := [90]) hB hJ.1 (by decide)
        rw [← hi] at hJ ⊢
        have rd : ∀ j, j < n → (σ2 90 j = nI t ↔ fD e n l j = t) := by
          intro j hj
          rw [hJ.2 j hj]
          by_cases z : j < i
          · rw [if_pos z]
            exact FV_eq h7 (by omega) (by omega)
          · rw [if_neg z]
            exact FV_eq h7 (by omega) (by omega)
        refine ev_go 100 [59] ?_
        refine br_f (by rw [hn2]; exact nI_ge (by omega) (by omega)) ?_
        refine ev_iter (M := m_M_findFar) (pc := 59) (st := []) (g := x_g) (Q := Q) (n - l) (fun m => ([.ref 67, .int (nI l), .int (nI (t + 1)), .int (nI i), .int (x_b (anb (fun m => decide (fD e n l (l + m) = t) && e (l + m) i) m = true)), .int (nI (l + m))], σ2, τ)) (fun m hm kk3 => ?_) ?_
        · dsimp only at kk3 ⊢
          have join : Ev m_M_findFar 105 [.ref 67, .int (nI l), .int (nI (t + 1)), .int (nI i), .int (x_b (anb (fun m => decide (fD e n l (l + m) = t) && e (l + m) i) m = true)), .int (nI (l + m))] [.int (x_b (anb (fun m => decide (fD e n l (l + m) = t) && e (l + m) i) (m + 1) = true))] x_g σ2 τ Q := by
            refine ev_go 100 [59] ?_
            show Ev m_M_findFar 59 [.ref 67, .int (nI l), .int (nI (t + 1)), .int (nI i), .int (x_b (anb (fun m => decide (fD e n l (l + m) = t) && e (l + m) i) (m + 1) = true)), .int (nI (l + m) + 1)] [] x_g σ2 τ Q
            rw [nI_1]
            exact kk3
          refine ev_go 100 [105] ?_
          refine br_f (by rw [hn2]; exact nI_ge (by omega) (by omega)) ?_
          by_cases t0 : anb (fun m => decide (fD e n l (l + m) = t) && e (l + m) i) m = true
          · refine bn_t (xb1 t0) ?_
            rw [x_b_t (p := anb (fun m => decide (fD e n l (l + m) = t) && e (l + m) i) (m + 1) = true) (by simp [anb, t0])] at join
            exact join
          refine bn_f (xb0 t0) ?_
          refine ⟨7, rfl, q_in (by omega) (by decide), ?_⟩
          rw [cl7 (by omega)]
          by_cases t1 : fD e n l (l + m) = t
          · refine bn_f (by rw [nI_pred]; exact (rd _ (by omega)).mpr t1) ?_
            refine ⟨7, rfl, q_in (by omega) (by decide), ?_⟩
            rw [hB2.get (by omega) (by omega)]
            refine e_M_has σ2 τ (b31 h7) (by omega) _ ?_
            rw [show (bs (e (l + m)) n).testBit i = e (l + m) i by rw [bs_bit]; simp [show i < n by omega]]
            by_cases t2 : e (l + m) i = true
            · refine br_f (xb1 t2) ?_
              rw [x_b_t (p := anb (fun m => decide (fD e n l (l + m) = t) && e (l + m) i) (m + 1) = true) (by simp [anb, t1, t2])] at join
              exact join
            · refine br_t (xb0 t2) ?_
              rw [x_b_f (p := anb (fun m => decide (fD e n l (l + m) = t) && e (l + m) i) (m + 1) = true) (by simp only [anb, Bool.or_eq_true, Bool.and_eq_true]; exact fun z => z.elim t0 (fun y => t2 y.2))] at join
              exact join
          · refine bn_t (by rw [nI_pred]; exact fun z => t1 ((rd _ (by omega)).mp z)) ?_
            rw [x_b_f (p := anb (fun m => decide (fD e n l (l + m) = t) && e (l + m) i) (m + 1) = true) (by simp only [anb, Bool.or_eq_true, Bool.and_eq_true, decide_eq_true_eq]; exact fun z => z.elim t0 (fun y => t1 y.1))] at join
            exact join
        · dsimp only
          have cur : σ2 90 (nI i).toNatClampNeg = FV e n l t i := by
            rw [cl7 (by omega), hJ.2 i (by omega), if_neg (Nat.lt_irrefl i)]
          have is_iff : anb (fun m => decide (fD e n l (l + m) = t) && e (l + m) i) (n - l) = true ↔ ∃ j, j < n ∧ l ≤ j ∧ fD e n l j = t ∧ e j i = true := by
            rw [anb_iff]
            constructor
            · rintro ⟨m, hm, hq⟩
              simp only [Bool.and_eq_true, decide_eq_true_eq] at hq
              exact ⟨l + m, by omega, by omega, hq.1, hq.2⟩
            · rintro ⟨j, hj, hlj, h1, h2⟩
              refine ⟨j - l, by omega, ?_⟩
              rw [show l + (j - l) = j by omega]
              simp [h1, h2]
          have upd_ok : ∀ v, v = FV e n l (t + 1) i → Ev m_M_findFar 45 [.ref 67, .int (nI l), .int (nI (t + 1)), .int (nI i + 1), .int (x_b (anb (fun m => decide (fD e n l (l + m) = t) && e (l + m) i) (n - l) = true)), .int (nI (l + (n - l)))] [] x_g (x_row σ2 90 (upd (σ2 90) i v)) τ Q := by
            intro v hv
            rw [nI_1, show i + 1 = l + 1 + (k + 1) by omega]
            refine kk2 (_, _) _ ⟨hJ.1.row (by decide), fun x hx => ?_⟩
            rw [x_row_eq]
            simp only [upd]
            by_cases ex : x = i
            · rw [if_pos ex, if_pos (by omega), ex]
              exact hv
            · rw [if_neg ex, hJ.2 x hx]
              by_cases ex2 : x < i
              · rw [if_pos ex2, if_pos (by omega)]
              · rw [if_neg ex2, if_neg (by omega)]
          refine ev_go 100 [45] ?_
          refine br_t (by rw [hn2]; exact nI_le (by omega) (by omega)) ?_
          refine ⟨7, rfl, q_in (by omega) (by decide), ?_⟩
          rw [cur]
          by_cases t1 : fD e n l i ≤ t
          · refine bn_t (fun z => (FV_9 h7 (by omega)).mp z t1) ?_
            refine ⟨7, rfl, q_in (by omega) (by decide), ?_⟩
            refine ⟨7, rfl, q_in (by omega) (by decide), ?_⟩
            rw [cur, cl7 (by omega)]
            exact upd_ok _ (by unfold FV; rw [if_pos (by omega), if_pos (by omega)])
          · refine bn_f ((FV_9 h7 (by omega)).mpr t1) ?_
            by_cases t2 : anb (fun m => decide (fD e n l (l + m) = t) && e (l + m) i) (n - l) = true
            · refine br_f (xb1 t2) ?_
              refine ⟨7, rfl, q_in (by omega) (by decide), ?_⟩
              rw [cl7 (by omega)]
              have hd := (far_step (e := e) (n := n) (l := l) (t := t) (x := i) (by omega) (by omega) t1).mpr (is_iff.mp t2)
              exact upd_ok _ (by unfold FV; rw [if_pos (by omega), hd])
            · refine br_t (xb0 t2) ?_
              refine ⟨7, rfl, q_in (by omega) (by decide), ?_⟩
              refine ⟨7, rfl, q_in (by omega) (by decide), ?_⟩
              rw [cur, cl7 (by omega)]
              have hd : ¬ fD e n l i = t + 1 := fun z => t2 (is_iff.mpr ((far_step (e := e) (n := n) (l := l) (t := t) (x := i) (by omega) (by omega) t1).mp z))
              exact upd_ok _ (by unfold FV; rw [if_neg (by omega), if_neg (by omega)])
      · have hn2 : σ2 67 10 = nI n := by rw [hJ.1 67 (by decide)]; exact hn
        refine ev_go 100 [33] ?_
        refine br_t (by rw [hn2]; exact nI_le (by omega) (by omega)) ?_
        show Ev m_M_findFar 33 [.ref 67, .int (nI l), .int (nI (t + 1) + 1), _, _, _] [] x_g _ τ Q
        rw [nI_1]
        refine kk (_, _, _) _ ⟨hJ.1, fun x hx => ?_⟩
        rw [hJ.2 x hx, if_pos (by omega)]
      · rw [hI.2 x hx]
        by_cases z : x < l + 1 + 0
        · rw [if_pos z]
          rcases Nat.lt_or_ge x l with hxl | hxl
          · unfold FV
            rw [fD_below hxl, if_neg (by omega), if_neg (by omega)]
          · have : x = l := by omega
            subst this
            unfold FV
            rw [fD_l hl, if_pos (by omega), if_pos (by omega)]
        · rw [if_neg z]
    · have hn1 : σ1 67 10 = nI n := by rw [hI.1 67 (by decide)]; exact hn
      refine ev_go 100 [] ?_
      refine br_t (by rw [hn1]; exact nI_le (by omega) (by omega)) ?_
      exact h _ hI
  refine ev_go 100 [2] ?_
  refine ev_lp (M := m_M_findFar) (pc := 2) (st := []) (g := x_g) (Q := Q) (τ := τ) n (fun k => [.ref 67, .int (nI l), .int (nI k), .null, .null, .null]) (fun k σ' => Ag [90] σ σ' ∧ ∀ x, x < k → σ' 90 x = -9) (fun k hk σ1 hI kk => ?_) (fun σ1 hI => ?_) σ ⟨Ag.refl, fun j hj => absurd hj (Nat.not_lt_zero j)⟩
  · refine ev_go 100 [2] ?_
    refine br_f (by rw [hI.1 67 (by decide), hn]; exact nI_ge hk (by omega)) ?_
    refine ⟨7, rfl, q_in (by omega) (by decide), ?_⟩
    show Ev m_M_findFar 2 [.ref 67, .int (nI l), .int (nI k + 1), .null, .null, .null] [] x_g _ τ Q
    rw [nI_1, cl7 (by omega)]
    refine kk _ ⟨hI.1.row (by decide), fun j hj => ?_⟩
    rw [x_row_eq]
    simp only [upd]
    by_cases ej : j = k
    · rw [if_pos ej]
    · rw [if_neg ej]
      exact hI.2 j (by omega)
  · refine ev_go 100 [33] ?_
    refine br_t (by rw [hI.1 67 (by decide), hn]; exact nI_le (Nat.le_refl _) (by omega)) ?_
    refine ⟨7, rfl, q_in (by omega) (by decide), ?_⟩
    rw [cl7 (by omega)]
    refine two (_, _, _) _ (hI.1.row (by decide)) (fun x hx => ?_)
    rw [x_row_eq]
    simp only [upd]
    by_cases ex : x = l
    · rw [if_pos ex, ex]
      unfold FV
      rw [fD_l hl, if_pos (by omega)]
      rfl
    · rw [if_neg ex, hI.2 x hx]
      unfold FV
      rw [if_neg]
      intro z
      exact ex (fD_0 (e := e) (n := n) (l := l) (x := x) (by omega) (by omega))
/-- the shortest ring by l, less one; n: none -/
def rV (e : Nat → Nat → Bool) (n l : Nat) : Nat := fi (cl e n l) n
def ob (n v : Nat) : Int32 := if v < n then nI (v + 1) else -9
def mnf (e : Nat → Nat → Bool) (n l : Nat) : Nat → Nat
  | 0 => n
  | k + 1 => if e (l + 1 + k) l = true then min (mnf e n l k) (fD e n l (l + 1 + k)) else mnf e n l k
theorem mnf_ok {e : Nat → Nat → Bool} {n l : Nat} : ∀ k, mnf e n l k ≤ n ∧ (mnf e n l k < n → ∃ i, l < i ∧ i < l + 1 + k ∧ e i l = true ∧ fD e n l i = mnf e n l k) ∧ ∀ i, l < i → i < l + 1 + k → e i l = true → mnf e n l k ≤ fD e n l i
  | 0 => ⟨Nat.le_refl n, fun h => by simp only [mnf] at h; omega, fun i h1 h2 => by omega⟩
  | k + 1 => by
    obtain ⟨a, b, c⟩ := mnf_ok (e := e) (n := n) (l := l) k
    have hle : fD e n l (l + 1 + k) ≤ n := fi_le
    simp only [mnf]
    by_cases h : e (l + 1 + k) l = true
    · rw [if_pos h]
      refine ⟨by omega, fun hlt => ?_, fun i h1 h2 h3 => ?_⟩
      · by_cases hm : mnf e n l k ≤ fD e n l (l + 1 + k)
        · obtain ⟨i, x1, x2, x3, x4⟩ := b (by omega)
          exact ⟨i, x1, by omega, x3, by omega⟩
        · exact ⟨l + 1 + k, by omega, by omega, h, by omega⟩
      · by_cases e1 : i = l + 1 + k
        · subst e1
          omega
        · have := c i h1 (by omega) h3
          omega
    · rw [if_neg h]
      refine ⟨a, fun hlt => ?_, fun i h1 h2 h3 => ?_⟩
      · obtain ⟨i, x1, x2, x3, x4⟩ := b hlt
        exact ⟨i, x1, by omega, x3, x4⟩
      · by_cases e1 : i = l + 1 + k
        · subst e1
          exact absurd h3 h
        · exact c i h1 (by omega) h3
theorem mnf_rV {e : Nat → Nat → Bool} {n l : Nat} (he : eIn e n) (hself : ∀ x, e x x = false) (hl : l < n) : mnf e n l (n - (l + 1)) = rV e n l := by
  obtain ⟨a, b, c⟩ := mnf_ok (e := e) (n := n) (l := l) (n - (l + 1))
  rcases Nat.lt_or_eq_of_le a with h | h
  · obtain ⟨i, x1, x2, x3, x4⟩ := b h
    obtain ⟨y1, y2⟩ := (cl_far he hself hl h).mpr ⟨⟨i, by omega, x1, x3, x4⟩, fun i h1 h2 h3 => c i h2 (by omega) h3⟩
    exact (fi_of h y1 y2).symm
  · rw [h]
    symm
    apply fi_no
    cases hc : anb (cl e n l) n
    · rfl
    · obtain ⟨y1, y2, y3⟩ := fi_ok hc
      obtain ⟨⟨i, x1, x2, x3, x4⟩, _⟩ := (cl_far he hself hl y1).mp ⟨y2, y3⟩
      have := c i x2 (by omega) x3
      omega
theorem e_M_ringBy (σ : xS) (τ : xL) {n : Nat} (h7 : n ≤ 7) (hn : σ 67 10 = nI n) {e : Nat → Nat → Bool} (he : eIn e n) (hself : ∀ x, e x x = false) (hB : Mr σ n e) {l : Nat} (hl : l < n) : Rs m_M_ringBy [.ref 67, .int (nI l)] σ τ (some (.int (ob n (rV e n l)))) (fun σ' => Ag [90] σ σ') := by
  intro Q h
  rw [← mnf_rV he hself hl] at h
  refine ev_go 100 [12] ?_
  refine e_M_findFar σ τ h7 hn hB hl _ (fun σ1 h1 => ?_)
  have hn1 : σ1 67 10 = nI n := by rw [h1.1 67 (by decide)]; exact hn
  have hB1 : Ar σ1 85 7 (fun j => bs (e j) n) := Ar.ag (L := [90]) hB h1.1 (by decide)
  have e0 : ob n (mnf e n l 0) = -9 := by simp [ob, mnf]
  show Ev m_M_ringBy 12 [.ref 67, .int (nI l), .int (-9), .int (nI l + 1), .null] [] x_g σ1 τ Q
  rw [nI_1, ← e0]
  refine ev_lj (α := Value) (M := m_M_ringBy) (pc := 12) (st := []) (g := x_g) (Q := Q) (τ := τ) (n - (l + 1)) (fun k u => [.ref 67, .int (nI l), .int (ob n (mnf e n l k)), .int (nI (l + 1 + k)), u]) (fun k σ' => σ' = σ1) (fun k hk u σ2 hI kk => ?_) (fun u σ2 hI => ?_) _ σ1 rfl
  · subst hI
    have cur : σ2 90 (nI (l + 1 + k)).toNatClampNeg = FV e n l (n - 1) (l + 1 + k) := by
      rw [cl7 (by omega)]
      exact h1.2 _ (by omega)
    have hm := (mnf_ok (e := e) (n := n) (l := l) k).1
    have keep : ∀ u, mnf e n l (k + 1) = mnf e n l k → Ev m_M_ringBy 12 [.ref 67, .int (nI l), .int (ob n (mnf e n l k)), .int (nI (l + 1 + k) + 1), u] [] x_g σ2 τ Q := by
      intro u hk2
      rw [nI_1]
      have := kk u σ2 rfl
      rw [hk2] at this
      exact this
    have hle : fD e n l (l + 1 + k) ≤ n := fi_le
    have no : (e (l + 1 + k) l = true → fD e n l (l + 1 + k) = n) → Ev m_M_ringBy 49 [.ref 67, .int (nI l), .int (ob n (mnf e n l k)), .int (nI (l + 1 + k)), u] [.int 0] x_g σ2 τ Q := by
      intro hno
      refine ev_go 100 [12] ?_
      refine br_t rfl ?_
      refine keep _ ?_
      simp only [mnf]
      by_cases z : e (l + 1 + k) l = true
      · rw [if_pos z, hno z]
        omega
      · rw [if_neg z]
    refine ev_go 100 [49, 12] ?_
    refine br_f (by rw [hn1]; exact nI_ge (by omega) (by omega)) ?_
    refine ⟨7, rfl, q_in (by omega) (by decide), ?_⟩
    rw [cur]
    by_cases t1 : fD e n l (l + 1 + k) < n
    · refine br_f (fun z => (FV_9 h7 (by omega)).mp z (by omega)) ?_
      refine ⟨7, rfl, q_in (by omega) (by decide), ?_⟩
      rw [hB1.get (by omega) (by omega)]
      refine e_M_has σ2 τ (b31 h7) (by omega) _ ?_
      rw [show (bs (e (l + 1 + k)) n).testBit l = e (l + 1 + k) l by rw [bs_bit]; simp [hl]]
      by_cases t2 : e (l + 1 + k) l = true
      · refine br_f (xb1 t2) ?_
        have curv : FV e n l (n - 1) (l + 1 + k) = nI (fD e n l (l + 1 + k)) := by unfold FV; rw [if_pos (by omega)]
        show Ev m_M_ringBy 49 [.ref 67, .int (nI l), .int (ob n (mnf e n l k)), .int (nI (l + 1 + k)), u] [.int 1] x_g σ2 τ Q
        have ed : mnf e n l (k + 1) = min (mnf e n l k) (fD e n l (l + 1 + k)) := by simp only [mnf]; rw [if_pos t2]
        have take : ¬ mnf e n l k ≤ fD e n l (l + 1 + k) → Ev m_M_ringBy 12 [.ref 67, .int (nI l), .int (nI (fD e n l (l + 1 + k)) + 1), .int (nI (l + 1 + k) + 1), .int 1] [] x_g σ2 τ Q := by
          intro hlt
          rw [nI_1, nI_1]
          have := kk (.int 1) σ2 rfl
          rw [ed, Nat.min_eq_right (by omega)] at this
          unfold ob at this
          rw [if_pos t1] at this
          exact this
        refine ev_go 100 [12] ?_
        refine br_f (by decide) ?_
        by_cases t3 : mnf e n l k < n
        · refine br_f (by unfold ob; rw [if_pos t3]; exact nI_ne9 (by omega)) ?_
          refine ⟨7, rfl, q_in (by omega) (by decide), ?_⟩
          rw [cur, curv]
          have hcmp : ob n (mnf e n l k) ≤ nI (fD e n l (l + 1 + k)) + 1 ↔ mnf e n l k ≤ fD e n l (l + 1 + k) := by
            unfold ob
            rw [if_pos t3, nI_1, nI_leI (by omega) (by omega)]
            omega
          by_cases t4 : mnf e n l k ≤ fD e n l (l + 1 + k)
          · refine br_t (hcmp.mpr t4) ?_
            exact keep _ (by rw [ed]; omega)
          · refine br_f (fun z => t4 (hcmp.mp z)) ?_
            refine ⟨7, rfl, q_in (by omega) (by decide), ?_⟩
            rw [cur, curv]
            exact take t4
        · refine br_t (by unfold ob; rw [if_neg t3]) ?_
          refine ⟨7, rfl, q_in (by omega) (by decide), ?_⟩
          rw [cur, curv]
          exact take (by omega)
      · refine br_t (xb0 t2) ?_
        exact no (fun z => absurd z t2)
    · refine br_t ((FV_9 h7 (by omega)).mpr (by omega)) ?_
      exact no (fun _ => by omega)
  · subst hI
    refine ev_go 100 [] ?_
    refine br_t (by rw [hn1]; exact nI_le (by omega) (by omega)) ?_
    exact h _ h1.1
