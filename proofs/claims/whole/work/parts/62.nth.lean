/-! THE ORDER OF A NUMBER -/
/-- the first below n, or n -/
def fi (f : Nat → Bool) : Nat → Nat
  | 0 => 0
  | n + 1 => if anb f n = true then fi f n else if f n = true then n else n + 1
theorem fi_ok {f : Nat → Bool} : ∀ {n : Nat}, anb f n = true → fi f n < n ∧ f (fi f n) = true ∧ ∀ j, j < fi f n → f j = false
  | 0, h => absurd h (by simp [anb])
  | n + 1, h => by
    simp only [fi]
    by_cases h1 : anb f n = true
    · rw [if_pos h1]
      obtain ⟨a, b, c⟩ := fi_ok h1
      exact ⟨by omega, b, c⟩
    · rw [if_neg h1]
      simp only [anb, Bool.or_eq_true] at h
      rcases h with h | h
      · exact absurd h h1
      · rw [if_pos h]
        exact ⟨by omega, h, fun j hj => anb_no.mp (by simpa using h1) j hj⟩
def rr (e : Nat → Nat → Bool) (n S r : Nat) : Nat → Nat
  | 0 => r
  | i + 1 => if cf e n S i = true then rr e n S r i - wy e n (S ||| 2 ^ i) else rr e n S r i
def nxf (e : Nat → Nat → Bool) (n S r : Nat) : Nat → Bool := fun i => cf e n S i && decide (rr e n S r i < wy e n (S ||| 2 ^ i))
def nx (e : Nat → Nat → Bool) (n S r : Nat) : Nat := fi (nxf e n S r) n
theorem rr_le {e : Nat → Nat → Bool} {n S r : Nat} : ∀ i, rr e n S r i ≤ r
  | 0 => Nat.le_refl r
  | i + 1 => by
    have := rr_le (e := e) (n := n) (S := S) (r := r) i
    simp only [rr]
    split <;> omega
theorem nx_ex {e : Nat → Nat → Bool} {n S r : Nat} (hS : S < 2 ^ n - 1) (hr : r < wy e n S) : anb (nxf e n S r) n = true := by
  cases h : anb (nxf e n S r) n
  · have hno := anb_no.mp h
    have key : ∀ k, k ≤ n → r = rr e n S r k + sg (fun i => if cf e n S i = true then wy e n (S ||| 2 ^ i) else 0) k := by
      intro k
      induction k with
      | zero => intro _; simp [rr, sg]
      | succ k ih =>
        intro hk
        have ih := ih (by omega)
        have hk2 := hno k (by omega)
        simp only [nxf] at hk2
        simp only [rr, sg]
        by_cases hc : cf e n S k = true
        · rw [if_pos hc, if_pos hc]
          rw [hc, Bool.true_and, decide_eq_false_iff_not] at hk2
          omega
        · rw [if_neg hc, if_neg hc]
          omega
    have := key n (Nat.le_refl n)
    rw [wy_eq hS] at hr
    omega
  · rfl
/-- who has gone and what is left of the number, at each place -/
def os (e : Nat → Nat → Bool) (n r : Nat) : Nat → Nat × Nat
  | 0 => (0, r)
  | p + 1 => ((os e n r p).1 ||| 2 ^ nx e n (os e n r p).1 (os e n r p).2, rr e n (os e n r p).1 (os e n r p).2 (nx e n (os e n r p).1 (os e n r p).2))
def od (e : Nat → Nat → Bool) (n r p : Nat) : Nat := nx e n (os e n r p).1 (os e n r p).2
theorem cnt_one {f g : Nat → Bool} {x : Nat} : ∀ {n : Nat}, (∀ i, i ≠ x → f i = g i) → cnt f n ≤ cnt g n + 1
  | 0, _ => by simp [cnt]
  | n + 1, h => by
    simp only [cnt]
    by_cases e : n = x
    · have : cnt f n = cnt g n := cnt_congr n (fun i hi => h i (by omega))
      split <;> split <;> omega
    · have := cnt_one (n := n) h
      rw [h n e]
      split <;> omega
theorem lf_all {n : Nat} : lf n (2 ^ n - 1) = 0 := cnt_zero n (fun i hi => by rw [Nat.testBit_two_pow_sub_one]; simp [hi])
theorem os_ok {e : Nat → Nat → Bool} {n r : Nat} (hr : r < wy e n 0) : ∀ p, p ≤ n → (os e n r p).1 < 2 ^ n ∧ (os e n r p).2 < wy e n (os e n r p).1 ∧ n - p ≤ lf n (os e n r p).1
  | 0, _ => by
    refine ⟨Nat.two_pow_pos n, hr, ?_⟩
    show n - 0 ≤ lf n 0
    unfold lf
    rw [cnt_all (fun i _ => by simp)]
    omega
  | p + 1, hp => by
    obtain ⟨a, b, c⟩ := os_ok hr p (by omega)
    have hS : (os e n r p).1 < 2 ^ n - 1 := by
      rcases Nat.lt_or_eq_of_le (show (os e n r p).1 ≤ 2 ^ n - 1 by omega) with h | h
      · exact h
      · rw [h, lf_all] at c
        omega
    obtain ⟨x1, x2, x3⟩ := fi_ok (nx_ex hS b)
    simp only [nxf, Bool.and_eq_true, decide_eq_true_eq] at x2
    refine ⟨or_lt a x1, x2.2, ?_⟩
    have := cnt_one (f := fun i => !(os e n r p).1.testBit i) (g := fun i => !((os e n r p).1 ||| 2 ^ nx e n (os e n r p).1 (os e n r p).2).testBit i) (x := nx e n (os e n r p).1 (os e n r p).2) (n := n) (fun i hi => by
      rw [Nat.testBit_or, Nat.testBit_two_pow]
      simp [show ¬ nx e n (os e n r p).1 (os e n r p).2 = i from fun z => hi z.symm])
    show n - (p + 1) ≤ lf n _
    unfold lf at c ⊢
    simp only [os]
    omega
theorem od_ok {e : Nat → Nat → Bool} {n r : Nat} (hr : r < wy e n 0) {p : Nat} (hp : p < n) : (os e n r p).1 < 2 ^ n - 1 ∧ od e n r p < n ∧ nxf e n (os e n r p).1 (os e n r p).2 (od e n r p) = true ∧ ∀ j, j < od e n r p → nxf e n (os e n r p).1 (os e n r p).2 j = false := by
  obtain ⟨a, b, c⟩ := os_ok hr p (by omega)
  have hS : (os e n r p).1 < 2 ^ n - 1 := by
    rcases Nat.lt_or_eq_of_le (show (os e n r p).1 ≤ 2 ^ n - 1 by omega) with h | h
    · exact h
    · rw [h, lf_all] at c
      omega
  exact ⟨hS, fi_ok (nx_ex hS b)⟩
theorem e_G_findOrder (σ : xS) (τ : xL) {n : Nat} (h7 : n ≤ 7) {e : Nat → Nat → Bool} (hG : Gr σ n e) (hW : Ar σ 34 (2 ^ n) (wy e n)) {r : Nat} (hr : r < wy e n 0) {v : Int32} (hv : v = nI r) : Rs m_G_findOrder [.ref 31, .int v] σ τ none (fun σ' => Ag [36] σ σ' ∧ Ar σ' 36 n (od e n r)) := by
  intro Q h
  subst hv
  have h128 := p2_7 h7
  have hp := Nat.one_le_two_pow (n := n)
  have hb0 := wy_b (e := e) (n := n) (S := 0) h7 (by omega)
  refine ev_go 100 [7] ?_
  refine ev_lj (α := Value × Value) (M := m_G_findOrder) (pc := 7) (st := []) (g := x_g) (Q := Q) (τ := τ) n (fun p u => [.ref 31, .int (nI r), .int (nI (os e n r p).2), .int (nI (os e n r p).1), .int (nI p), u.1, u.2]) (fun p σ' => Ag [36] σ σ' ∧ Ar σ' 36 p (od e n r)) (fun p hp u σ1 hI kk => ?_) (fun u σ1 hI => ?_) (_, _) σ ⟨Ag.refl, fun j hj => absurd hj (Nat.not_lt_zero j)⟩
  · have hG1 := hG.ag hI.1 (by decide) (by decide)
    have hW1 := hW.ag hI.1 (by decide)
    obtain ⟨hS, x1, x2, x3⟩ := od_ok hr hp
    have hrb : (os e n r p).2 < 2 ^ 31 := Nat.lt_of_lt_of_le (os_ok hr p (by omega)).2.1 (Nat.le_trans (wy_b h7 (by omega)) (by decide))
    have kk' := kk
    simp only [os] at kk'
    have exd : nx e n (os e n r p).1 (os e n r p).2 = od e n r p := rfl
    rw [exd] at kk'
    have hIo : Ar (x_row σ1 36 (upd (σ1 36) p (nI (od e n r p)))) 36 (p + 1) (od e n r) := fun j hj => by
      rw [x_row_eq]
      simp only [upd]
      by_cases ej : j = p
      · rw [if_pos ej, ej]
      · rw [if_neg ej]
        exact hI.2 j (by omega)
    generalize hSe : (os e n r p).1 = S at *
    generalize hre : (os e n r p).2 = r' at *
    generalize od e n r p = x at *
    have at88 : ∀ i, Ev m_G_findOrder 88 [.ref 31, .int (nI r), .int (nI (rr e n S r' x)), .int (nI S), .int (nI p), .int (nI x), .int i] [] x_g σ1 τ Q := by
      intro i
      refine ev_go 100 [7] ?_
      refine br_t (nI_pos' (by omega)) ?_
      refine ⟨7, rfl, q_in (by omega) (by decide), ?_⟩
      rw [cl7 (by omega)]
      show Ev m_G_findOrder 7 [.ref 31, .int (nI r), .int (nI (rr e n S r' x)), .int (nI S ||| ((1 : Int32) <<< (nI x &&& 31))), .int (nI p + 1), .int (nI x), .int i] [] x_g _ τ Q
      rw [nI_1, q_shl1 (by omega), q_or]
      exact kk' (_, _) _ ⟨hI.1.row (by decide), hIo⟩
    refine ev_go 100 [22] ?_
    refine br_f (by rw [hG1.1.1]; exact nI_ge hp (by omega)) ?_
    refine ev_iter (M := m_G_findOrder) (pc := 22) (st := []) (g := x_g) (Q := Q) x (fun i => ([.ref 31, .int (nI r), .int (nI (rr e n S r' i)), .int (nI S), .int (nI p), .int (-1), .int (nI i)], σ1, τ)) (fun i hi kk2 => ?_) ?_
    · dsimp only at kk2 ⊢
      have hn := x3 i hi
      have hrr := rr_le (e := e) (n := n) (S := S) (r := r') i
      refine ev_go 100 [22] ?_
      refine br_f (by rw [hG1.1.1]; exact nI_ge (by omega) (by omega)) ?_
      refine br_f (by decide) ?_
      refine e_G_canFollow σ1 τ h7 hG1.2 (S := S) (by omega) (by omega) _ ?_
      by_cases hc : cf e n S i = true
      · refine br_f (xb1 hc) ?_
        have h1 := or_lt (show S < 2 ^ n by omega) (show i < n by omega)
        have hwb := wy_b31 (e := e) h7 h1
        simp only [nxf, hc, Bool.true_and, decide_eq_false_iff_not] at hn
        refine ⟨128, rfl, by rw [q_shl1 (by omega), q_or]; exact q_in (by omega) (by decide), ?_⟩
        have hgt : σ1 34 (nI S ||| ((1 : Int32) <<< (nI i &&& 31))).toNatClampNeg = nI (wy e n (S ||| 2 ^ i)) := by
          rw [q_shl1 (by omega), q_or, hW1.get (by omega) (by omega)]
        rw [hgt]
        refine br_t (nI_le (by omega) (by omega)) ?_
        refine ⟨128, rfl, by rw [q_shl1 (by omega), q_or]; exact q_in (by omega) (by decide), ?_⟩
        rw [hgt]
        show Ev m_G_findOrder 22 [.ref 31, .int (nI r), .int (nI (rr e n S r' i) - nI (wy e n (S ||| 2 ^ i))), .int (nI S), .int (nI p), .int (-1), .int (nI i + 1)] [] x_g σ1 τ Q
        rw [nI_1, pk_sub (by omega)]
        simp only [rr, if_pos hc] at kk2
        exact kk2
      · refine br_t (xb0 hc) ?_
        show Ev m_G_findOrder 22 [.ref 31, .int (nI r), .int (nI (rr e n S r' i)), .int (nI S), .int (nI p), .int (-1), .int (nI i + 1)] [] x_g σ1 τ Q
        rw [nI_1]
        simp only [rr, if_neg hc] at kk2
        exact kk2
    · dsimp only
      simp only [nxf, Bool.and_eq_true, decide_eq_true_eq] at x2
      have hrr := rr_le (e := e) (n := n) (S := S) (r := r') x
      have h1 := or_lt (show S < 2 ^ n by omega) x1
      have hwb := wy_b31 (e := e) h7 h1
      refine ev_go 100 [22] ?_
      refine br_f (by rw [hG1.1.1]; exact nI_ge (by omega) (by omega)) ?_
      refine br_f (by decide) ?_
      refine e_G_canFollow σ1 τ h7 hG1.2 (S := S) (by omega) (by omega) _ ?_
      refine br_f (xb1 x2.1) ?_
      refine ⟨128, rfl, by rw [q_shl1 (by omega), q_or]; exact q_in (by omega) (by decide), ?_⟩
      refine br_f (by rw [q_shl1 (by omega), q_or, hW1.get (by omega) (by omega)]; exact nI_ge x2.2 (by omega)) ?_
      show Ev m_G_findOrder 22 [.ref 31, .int (nI r), .int (nI (rr e n S r' x)), .int (nI S), .int (nI p), .int (nI x), .int (nI x + 1)] [] x_g σ1 τ Q
      refine ev_go 100 [88] ?_
      refine And.intro (fun _ => at88 _) (fun _ => ?_)
      refine br_t (nI_pos' (by omega)) ?_
      exact at88 _
  · refine ev_go 100 [] ?_
    refine br_t (by rw [hI.1 31 (by decide), hG.1.1]; exact nI_le (Nat.le_refl _) (by omega)) ?_
    exact h _ hI
/-- a row made anew on both sides -/
theorem Rel.rowed {σ σ1 σ2 : xS} {τ : xL} (hR : Rel σ τ) {k n : Nat} (hk : k < 6) (hn : n ≤ 40) {V : Nat → Int32} {L1 L2 : List Nat} (h1 : ∀ q, q ≠ 3 + k → q ≠ 9 → q ∉ L1 → σ1 q = σ q) (hL1 : ∀ q, q ∈ L1 → scrq q) (h9 : σ1 9 = upd (σ 9) k (nI n)) (hv : ∀ i, i < 40 → σ1 (3 + k) i = if i < n then V i else 0) (h2 : ∀ q, q ≠ 69 → q ≠ 70 → q ∉ L2 → σ2 q = σ1 q) (hL2 : ∀ q, q ∈ L2 → scrq q) (h69 : σ2 69 = upd (σ1 69) k (nI n)) (h70 : ∀ j, j < 240 → σ2 70 j = if 40 * k ≤ j ∧ j < 40 * k + 40 then (if j - 40 * k < n then V (j - 40 * k) else 0) else σ1 70 j) : Rel σ2 τ := by
  have f1 : ∀ q, q ≠ 3 + k → q ≠ 9 → ¬ scrq q → σ1 q = σ q := fun q a b c => h1 q a b (fun z => c (hL1 q z))
  have f2 : ∀ q, q ≠ 69 → q ≠ 70 → ¬ scrq q → σ2 q = σ1 q := fun q a b c => h2 q a b (fun z => c (hL2 q z))
  have f3 : ∀ q, q ≠ 3 + k → q ≠ 9 → q ≠ 69 → q ≠ 70 → ¬ scrq q → σ2 q = σ q := fun q a b c d f => (f2 q c d f).trans (f1 q a b f)
  unfold scrq at f1 f2 f3
  have hR1 : RelR σ2 := by
    refine ⟨?_, fun r hr => ⟨?_, fun i hi => ?_⟩⟩
    · rw [f3 1 (by omega) (by omega) (by omega) (by omega) (by omega)]
      exact hR.1.1
    · rw [f2 9 (by omega) (by omega) (by omega), h9, h69, f1 69 (by omega) (by omega) (by omega)]
      by_cases e : r = k
      · subst e
        exact Or.inr ⟨n, hn, by simp [upd], by simp [upd]⟩
      · simp only [upd, e, if_false]
        exact (hR.1.2 r hr).1
    · rw [f2 (3 + r) (by omega) (by omega) (by omega), h70 _ (by omega)]
      by_cases e : r = k
      · subst e
        rw [if_pos (by omega), show 40 * r + i - 40 * r = i by omega]
        exact hv i hi
      · rw [f1 (3 + r) (by omega) (by omega) (by omega), if_neg (by omega), f1 70 (by omega) (by omega) (by omega)]
        exact (hR.1.2 r hr).2 i hi
  refine hR.rows hR1 (fun q q1 q2 => f3 q (by omega) (by omega) (by omega) (by omega) (by omega)) (fun q q1 q2 => f3 q (by omega) (by omega) (by omega) (by omega) (by omega)) (fun q q1 q2 => f3 q (by omega) (by omega) (by omega) (by omega) (by omega)) (f3 84 (by omega) (by omega) (by omega) (by omega) (by omega)) (by rw [f3 67 (by omega) (by omega) (by omega) (by omega) (by omega)]) (by rw [f3 67 (by omega) (by omega) (by omega) (by omega) (by omega)]) (by rw [f3 67 (by omega) (by omega) (by omega) (by omega) (by omega)]) ?_
  unfold RelA
  rw [f3 0 (by omega) (by omega) (by omega) (by omega) (by omega), f3 67 (by omega) (by omega) (by omega) (by omega) (by omega), f3 48 (by omega) (by omega) (by omega) (by omega) (by omega), f3 68 (by omega) (by omega) (by omega) (by omega) (by omega)]
  exact hR.2.2.2
theorem e_S_layOrder (σ : xS) (τ : xL) {P : xP} (hP : PC σ 17 P) (hV : PV P) {e : Nat → Nat → Bool} (hG : Gr σ (pn P) e) (hW : Ar σ 34 (2 ^ pn P) (wy e (pn P))) {r : Nat} (hr : r < wy e (pn P) 0) {k : Nat} (hk : k < 6) (hb : σ 1 2 = 0) {v : Int32} (hv : v = nI r) : Rs m_S_layOrder [.ref 0, .int v, .int (nI k)] σ τ none (fun σ' => (∀ q, q ≠ 3 + k → q ≠ 9 → q ∉ [36] → σ' q = σ q) ∧ σ' 9 = upd (σ 9) k (nI (pn P)) ∧ ∀ i, i < 40 → σ' (3 + k) i = if i < pn P then nI (od e (pn P) r i) else 0) := by
  intro Q h
  have h7 := hV.1
  refine ev_go 100 [25] ?_
  refine e_G_findOrder σ τ h7 hG hW hr hv _ (fun σ1 h1 => ?_)
  refine e_H_make_row σ1 τ hk (σ1 17 0) (by rw [h1.1 1 (by decide)]; exact hb) _ ?_
  rw [h1.1 17 (by decide), hP.1]
  have c1 : ∀ q, q ≠ 3 + k → q ≠ 9 → c_row σ1 k (nI (pn P)) q = σ1 q := fun q a b => by
    unfold c_row
    rw [x_row_ne b, x_row_ne a]
  refine ev_lp (M := m_S_layOrder) (pc := 25) (st := []) (g := x_g) (Q := Q) (τ := τ) (pn P) (fun i => [.ref 0, .int v, .int (nI k), .int (nI i)]) (fun j σ' => (∀ q, q ≠ 3 + k → q ≠ 9 → σ' q = σ1 q) ∧ σ' 9 = upd (σ 9) k (nI (pn P)) ∧ ∀ i, i < 40 → σ' (3 + k) i = if i < j then nI (od e (pn P) r i) else 0) (fun j hj σ2 hI kk => ?_) (fun σ2 hI => ?_) _ ⟨c1, ?_, ?_⟩
  · have hc : σ2 17 0 = nI (pn P) := by rw [hI.1 17 (by omega) (by omega), h1.1 17 (by decide)]; exact hP.1
    refine ev_go 100 [25] ?_
    refine br_f (by rw [hc]; exact nI_ge hj (by omega)) ?_
    refine ⟨18, 6, 3 + k, rfl, Or.inl rfl, q_in hk (by decide), by rw [cl7 (by omega)]; exact rf_rows k hk, ?_⟩
    refine ⟨7, rfl, q_in (by omega) (by decide), ?_⟩
    refine ⟨40, sh_rows k hk, q_in (by omega) (by decide), ?_⟩
    rw [show σ2 36 (nI j).toNatClampNeg = nI (od e (pn P) r j) from by rw [cl7 (by omega), hI.1 36 (by omega) (by omega)]; exact h1.2 j hj, cl7 (by omega)]
    show Ev m_S_layOrder 25 [.ref 0, .int v, .int (nI k), .int (nI j + 1)] [] x_g _ τ Q
    rw [nI_1]
    refine kk _ ⟨fun q a b => by rw [x_row_ne a]; exact hI.1 q a b, by rw [x_row_ne (by omega)]; exact hI.2.1, fun i hi => ?_⟩
    rw [x_row_eq]
    simp only [upd]
    by_cases ei : i = j
    · rw [if_pos ei, if_pos (by omega), ei]
    · rw [if_neg ei, hI.2.2 i hi]
      by_cases ei2 : i < j
      · rw [if_pos ei2, if_pos (by omega)]
      · rw [if_neg ei2, if_neg (by omega)]
  · have hc : σ2 17 0 = nI (pn P) := by rw [hI.1 17 (by omega) (by omega), h1.1 17 (by decide)]; exact hP.1
    refine ev_go 100 [] ?_
    refine br_t (by rw [hc]; exact nI_le (Nat.le_refl _) (by omega)) ?_
    exact h _ ⟨fun q a b c => by rw [hI.1 q a b]; exact h1.1 q c, hI.2⟩
  · unfold c_row
    rw [x_row_eq, h1.1 9 (by decide)]
  · intro i hi
    unfold c_row
    rw [x_row_ne (by omega), x_row_eq]
    simp [hi]
theorem e_M_putOrder (σ : xS) (τ : xL) {n : Nat} (h7 : n ≤ 7) (hn : σ 67 10 = nI n) {e : Nat → Nat → Bool} (hB : Mr σ n e) (hW : Ar σ 87 (2 ^ n) (wy e n)) {r : Nat} (hr : r < wy e n 0) {k : Nat} (hk : k < 6) {v : Int32} (hv : v = nI r) : Rs m_M_putOrder [.ref 67, .int v, .int (nI k)] σ τ none (fun σ' => (∀ q, q ≠ 69 → q ≠ 70 → σ' q = σ q) ∧ σ' 69 = upd (σ 69) k (nI n) ∧ ∀ j, j < 240 → σ' 70 j = if 40 * k ≤ j ∧ j < 40 * k + 40 then (if j - 40 * k < n then nI (od e n r (j - 40 * k)) else 0) else σ 70 j) := by
  intro Q h
  subst hv
  have h128 := p2_7 h7
  have hp := Nat.one_le_two_pow (n := n)
  have hb0 := wy_b (e := e) (n := n) (S := 0) h7 (by omega)
  refine ev_go 100 [18] ?_
  refine e_M_row_ok σ τ hk (n := σ 67 10) (by rw [hn]; exact nI_le (b := 40) (by omega) (by decide)) (by rw [hn]; exact nI_pos' (by omega)) _ ?_
  rw [hn]
  have c1 : ∀ q, q ≠ 69 → q ≠ 70 → m_row σ k (nI n) q = σ q := fun q a b => by
    unfold m_row
    rw [x_row_ne b, x_row_ne a]
  have c69 : m_row σ k (nI n) 69 = upd (σ 69) k (nI n) := by
    unfold m_row
    rw [x_row_ne (by decide), x_row_eq]
  have c70 : m_row σ k (nI n) 70 = blk (σ 70) (40 * k) 40 0 := by
    unfold m_row
    rw [x_row_eq]
  refine ev_lj (α := Value × Value × Value) (M := m_M_putOrder) (pc := 18) (st := []) (g := x_g) (Q := Q) (τ := τ) n (fun p u => [.ref 67, .int (nI r), .int (nI k), .int (nI (os e n r p).2), .int (nI (os e n r p).1), .int (nI p), u.1, u.2.1, u.2.2]) (fun p σ' => (∀ q, q ≠ 69 → q ≠ 70 → σ' q = σ q) ∧ σ' 69 = upd (σ 69) k (nI n) ∧ ∀ j, j < 240 → σ' 70 j = if 40 * k ≤ j ∧ j < 40 * k + 40 then (if j - 40 * k < p then nI (od e n r (j - 40 * k)) else 0) else σ 70 j) (fun p hp u σ1 hI kk => ?_) (fun u σ1 hI => ?_) (_, _, _) _ ⟨c1, c69, fun j hj => ?_⟩
  · have hn1 : σ1 67 10 = nI n := by rw [hI.1 67 (by decide) (by decide)]; exact hn
    have hB1 : Ar σ1 85 7 (fun j => bs (e j) n) := fun j hj => by rw [hI.1 85 (by decide) (by decide)]; exact hB j hj
    have hW1 : Ar σ1 87 (2 ^ n) (wy e n) := fun j hj => by rw [hI.1 87 (by decide) (by decide)]; exact hW j hj
    obtain ⟨hS, x1, x2, x3⟩ := od_ok hr hp
    have hrb : (os e n r p).2 < 2 ^ 31 := Nat.lt_of_lt_of_le (os_ok hr p (by omega)).2.1 (Nat.le_trans (wy_b h7 (by omega)) (by decide))
    have kk' := kk
    simp only [os] at kk'
    have exd : nx e n (os e n r p).1 (os e n r p).2 = od e n r p := rfl
    rw [exd] at kk'
    have hIo : ∀ j, j < 240 → x_row σ1 70 (upd (σ1 70) (40 * k + p) (nI (od e n r p))) 70 j = if 40 * k ≤ j ∧ j < 40 * k + 40 then (if j - 40 * k < p + 1 then nI (od e n r (j - 40 * k)) else 0) else σ 70 j := fun j hj => by
      rw [x_row_eq]
      simp only [upd]
      by_cases ej : j = 40 * k + p
      · rw [if_pos ej, if_pos (by omega), if_pos (by omega), show j - 40 * k = p by omega]
      · rw [if_neg ej, hI.2.2 j hj]
        by_cases e1 : 40 * k ≤ j ∧ j < 40 * k + 40
        · rw [if_pos e1, if_pos e1]
          by_cases e2 : j - 40 * k < p
          · rw [if_pos e2, if_pos (by omega)]
          · rw [if_neg e2, if_neg (by omega)]
        · rw [if_neg e1, if_neg e1]
    generalize hSe : (os e n r p).1 = S at *
    generalize hre : (os e n r p).2 = r' at *
    generalize od e n r p = x at *
    have at125 : ∀ (i : Int32) (w : Value), Ev m_M_putOrder 125 [.ref 67, .int (nI r), .int (nI k), .int (nI (rr e n S r' x)), .int (nI S), .int (nI p), .int (nI x), .int i, w] [] x_g σ1 τ Q := by
      intro i w
      have e40 : (40 : Int32) * nI k + nI p = nI (40 * k + p) := by rw [show (40 : Int32) = nI 40 from rfl, pk_mul, nI_add]
      refine ev_go 100 [18] ?_
      refine ⟨240, rfl, by rw [e40]; exact q_in (by omega) (by decide), ?_⟩
      rw [e40, cl7 (by omega)]
      show Ev m_M_putOrder 18 [.ref 67, .int (nI r), .int (nI k), .int (nI (rr e n S r' x)), .int (nI S ||| ((1 : Int32) <<< (nI x &&& 31))), .int (nI p + 1), .int (nI x), .int i, w] [] x_g _ τ Q
      rw [nI_1, q_shl1 (by omega), q_or]
      exact kk' (_, _, _) _ ⟨fun q a b => by rw [x_row_ne b]; exact hI.1 q a b, by rw [x_row_ne (by decide)]; exact hI.2.1, hIo⟩
    refine ev_go 100 [34] ?_
    refine br_f (by rw [hn1]; exact nI_ge hp (by omega)) ?_
    refine ev_lj (α := Value) (M := m_M_putOrder) (pc := 34) (st := []) (g := x_g) (Q := Q) (τ := τ) x (fun i w => [.ref 67, .int (nI r), .int (nI k), .int (nI (rr e n S r' i)), .int (nI S), .int (nI p), .int (-9), .int (nI i), w]) (fun i σ' => σ' = σ1) (fun i hi w σ2 hJ kk2 => ?_) (fun w σ2 hJ => ?_) _ σ1 rfl
    · subst hJ
      have hn := x3 i hi
      have hrr := rr_le (e := e) (n := n) (S := S) (r := r') i
      have no : cf e n S i = false → Ev m_M_putOrder 34 [.ref 67, .int (nI r), .int (nI k), .int (nI (rr e n S r' i)), .int (nI S), .int (nI p), .int (-9), .int (nI i + 1), w] [] x_g σ2 τ Q := by
        intro hc
        rw [nI_1]
        have := kk2 w σ2 rfl
        simp only [rr, hc] at this
        exact this
      refine ev_go 100 [34] ?_
      refine br_f (by rw [hn1]; exact nI_ge (by omega) (by omega)) ?_
      refine bn_f rfl ?_
      refine e_M_has σ2 τ (by omega) (by omega) _ ?_
      by_cases t : S.testBit i = true
      · refine bn_t (xb1 t) ?_
        exact no (by simp [cf, t])
      · refine bn_f (xb0 t) ?_
        refine ⟨7, rfl, q_in (by omega) (by decide), ?_⟩
        rw [hB1.get (by omega) (by omega)]
        have hnd : nd (bs (e i) n) S < 2 ^ 31 := by
          have : nd (bs (e i) n) S < 2 ^ n := Nat.xor_lt_two_pow (bs_lt _ _) (Nat.and_lt_two_pow _ (by omega))
          omega
        by_cases t2 : nd (bs (e i) n) S = 0
        · refine bn_f (by rw [q_nd, t2]; rfl) ?_
          have hc : cf e n S i = true := by simp only [cf, t2]; simpa using t
          have h1 := or_lt (show S < 2 ^ n by omega) (show i < n by omega)
          have hwb := wy_b31 (e := e) h7 h1
          simp only [nxf, hc, Bool.true_and, decide_eq_false_iff_not] at hn
          refine ⟨128, rfl, by rw [q_shl1 (by omega), q_or]; exact q_in (by omega) (by decide), ?_⟩
          rw [show σ2 87 (nI S ||| ((1 : Int32) <<< (nI i &&& 31))).toNatClampNeg = nI (wy e n (S ||| 2 ^ i)) from by rw [q_shl1 (by omega), q_or, hW1.get (by omega) (by omega)]]
          refine br_t (nI_le (by omega) (by omega)) ?_
          refine br_t (nI_le (by omega) (by omega)) ?_
          show Ev m_M_putOrder 34 [.ref 67, .int (nI r), .int (nI k), .int (nI (rr e n S r' i) - nI (wy e n (S ||| 2 ^ i))), .int (nI S), .int (nI p), .int (-9), .int (nI i + 1), .int (nI (wy e n (S ||| 2 ^ i)))] [] x_g σ2 τ Q
          rw [nI_1, pk_sub (by omega)]
          have := kk2 (.int (nI (wy e n (S ||| 2 ^ i)))) σ2 rfl
          simp only [rr, if_pos hc] at this
          exact this
        · refine bn_t (by rw [q_nd]; exact nI_ne0 (Nat.pos_of_ne_zero t2) hnd) ?_
          exact no (by simp [cf, t2])
    · subst hJ
      simp only [nxf, Bool.and_eq_true, decide_eq_true_eq] at x2
      have hrr := rr_le (e := e) (n := n) (S := S) (r := r') x
      have h1 := or_lt (show S < 2 ^ n by omega) x1
      have hwb := wy_b31 (e := e) h7 h1
      have hcf := x2.1
      simp only [cf, Bool.and_eq_true, Bool.not_eq_true', decide_eq_true_eq] at hcf
      refine ev_go 100 [34] ?_
      refine br_f (by rw [hn1]; exact nI_ge (by omega) (by omega)) ?_
      refine bn_f rfl ?_
      refine e_M_has σ2 τ (by omega) (by omega) _ ?_
      refine bn_f (xb0 (by rw [hcf.1]; decide)) ?_
      refine ⟨7, rfl, q_in (by omega) (by decide), ?_⟩
      rw [hB1.get (by omega) (by omega)]
      refine bn_f (by rw [q_nd, hcf.2]; rfl) ?_
      refine ⟨128, rfl, by rw [q_shl1 (by omega), q_or]; exact q_in (by omega) (by decide), ?_⟩
      rw [show σ2 87 (nI S ||| ((1 : Int32) <<< (nI x &&& 31))).toNatClampNeg = nI (wy e n (S ||| 2 ^ x)) from by rw [q_shl1 (by omega), q_or, hW1.get (by omega) (by omega)]]
      refine br_f (nI_ge x2.2 (by omega)) ?_
      refine br_f (nI_ge x2.2 (by omega)) ?_
      show Ev m_M_putOrder 34 [.ref 67, .int (nI r), .int (nI k), .int (nI (rr e n S r' x) - 0), .int (nI S), .int (nI p), .int (nI x), .int (nI x + 1), .int (nI (wy e n (S ||| 2 ^ x)))] [] x_g σ2 τ Q
      rw [Int32.sub_zero]
      refine ev_go 100 [125] ?_
      refine And.intro (fun _ => at125 _ _) (fun _ => ?_)
      refine bn_t (nI_ne9 (by omega)) ?_
      exact at125 _ _
  · have hn1 : σ1 67 10 = nI n := by rw [hI.1 67 (by decide) (by decide)]; exact hn
    refine ev_go 100 [] ?_
    refine br_t (by rw [hn1]; exact nI_le (Nat.le_refl _) (by omega)) ?_
    exact h _ hI
  · rw [c70]
    simp only [blk]
    by_cases e1 : 40 * k ≤ j ∧ j < 40 * k + 40
    · rw [if_pos e1, if_pos e1, if_neg (by omega)]
    · rw [if_neg e1, if_neg e1]
theorem pair_first (r : Int32) : Pair m_S_first m_M_first [.int r] := by
  intro σ τ hR
  obtain ⟨P, hC, hM, hV, hK⟩ := hR.2.2.1
  have h7 := hV.1
  have hp := Nat.one_le_two_pow (n := pn P)
  refine ev_go 100 [] ?_
  refine e_H_isNumber1 σ τ r _ ?_
  rcases q_ix r 6 (by decide) with h0 | ⟨k, hk, rfl⟩
  · refine bn_f (xb0 (fun q => h0.elim q.1 q.2)) ?_
    refine ⟨rfl, ?_⟩
    refine ev_go 100 [] ?_
    refine e_M_isRow σ τ r _ ?_
    refine bn_f (xb0 (fun q => h0.elim q.1 (fun z => q.2 ((q_5 r).mpr z)))) ?_
    exact ⟨rfl, rfl, ⟨_, rfl⟩, hR⟩
  · refine bn_t (xb1 (in_row6 hk)) ?_
    refine e_G_takeAll σ τ hC hV _ (fun σ1 h1 => ?_)
    refine e_G_countOnward σ1 τ h7 (e := edP P) ⟨h1.2.1, h1.2.2⟩ _ (fun σ2 h2 => ?_)
    have b0 := wy_b31 (e := edP P) (n := pn P) (S := 0) h7 (by omega)
    have hC2 := (hC.ag h1.1 (by decide)).ag h2.1 (by decide)
    have hM2 := (hM.ag h1.1 (by decide)).ag h2.1 (by decide)
    have hG2 : Gr σ2 (pn P) (edP P) := Gr.ag ⟨h1.2.1, h1.2.2⟩ h2.1 (by decide) (by decide)
    refine ⟨128, rfl, q_in (i := 0) (by decide) (by decide), ?_⟩
    rw [show σ2 34 (0 : Int32).toNatClampNeg = nI (wy (edP P) (pn P) 0) from h2.2 0 (by omega)]
    rcases Nat.eq_zero_or_pos (wy (edP P) (pn P) 0) with hz | hz
    · refine bn_f (by rw [hz]; rfl) ?_
      refine ⟨rfl, ?_⟩
      refine ev_go 100 [] ?_
      refine e_M_isRow _ τ _ _ ?_
      refine bn_t (xb1 (in_row hk)) ?_
      refine e_M_findNow σ2 _ hM2 hV _ (fun σ3 h3 => ?_)
      refine e_M_countOrders σ3 _ h7 (hM2.ag h3.1 (by decide)).1 h3.2.1 _ (fun σ4 h4 => ?_)
      refine bn_f (by rw [hz]; rfl) ?_
      exact ⟨rfl, rfl, ⟨_, rfl⟩, (((hR.ag h1.1 (by decide)).ag h2.1 (by decide)).ag h3.1 (by decide)).ag h4.1 (by decide)⟩
    · refine bn_t (nI_ne0 hz b0) ?_
      refine e_S_layOrder σ2 τ hC2 hV hG2 h2.2 hz hk (by rw [h2.1 1 (by decide), h1.1 1 (by decide)]; exact hR.1.1) rfl _ (fun σ3 h3 => ?_)
      refine ⟨rfl, ?_⟩
      have hM3 : PM σ3 P := hM2.congr (by rw [h3.1 67 (by omega) (by omega) (by decide)]) (by rw [h3.1 67 (by omega) (by omega) (by decide)]) (by rw [h3.1 67 (by omega) (by omega) (by decide)]) (fun q q1 q2 => h3.1 q (by omega) (by omega) (by simp; omega))
      refine ev_go 100 [] ?_
      refine e_M_isRow _ τ _ _ ?_
      refine bn_t (xb1 (in_row hk)) ?_
      refine e_M_findNow σ3 _ hM3 hV _ (fun σ4 h4 => ?_)
      have hM4 := hM3.ag h4.1 (by decide)
      refine e_M_countOrders σ4 _ h7 hM4.1 h4.2.1 _ (fun σ5 h5 => ?_)
      have hM5 := hM4.ag h5.1 (by decide)
      refine bn_t (nI_ne0 hz b0) ?_
      refine e_M_putOrder σ5 τ h7 hM5.1 (h4.2.1.ag h5.1 (by decide)) h5.2 hz hk rfl _ (fun σ6 h6 => ?_)
      have h12 : Ag [31, 32, 34] σ σ2 := (h1.1.mono (by decide)).trans (h2.1.mono (by decide))
      have h45 : Ag [85, 86, 87] σ3 σ5 := (h4.1.mono (by decide)).trans (h5.1.mono (by decide))
      refine ⟨rfl, rfl, ⟨_, rfl⟩, ?_⟩
      refine hR.rowed (σ1 := σ5) (L1 := [31, 32, 34, 36, 85, 86, 87]) (L2 := []) hk (show pn P ≤ 40 by omega) (V := fun i => nI (od (edP P) (pn P) 0 i)) (fun q a b c => ?_) (by decide) ?_ (fun i hi => ?_) (fun q a b _ => h6.1 q a b) (by decide) h6.2.1 h6.2.2
      · simp only [List.mem_cons, List.not_mem_nil, or_false, not_or] at c
        rw [h45 q (by simp; omega), h3.1 q a b (by simp; omega), h12 q (by simp; omega)]
      · rw [h45 9 (by decide), h3.2.1, h12 9 (by decide)]
      · rw [h45 (3 + k) (by simp; omega)]
        exact h3.2.2 i hi
theorem pair_nth (i r : Int32) : Pair m_S_nth m_M_nth [.int i, .int r] := by
  intro σ τ hR
  obtain ⟨P, hC, hM, hV, hK⟩ := hR.2.2.1
  have h7 := hV.1
  have hp := Nat.one_le_two_pow (n := pn P)
  by_cases hi0 : i < 0
  · refine ev_go 100 [] ?_
    refine br_t hi0 ?_
    refine ⟨rfl, ?_⟩
    refine ev_go 100 [] ?_
    refine br_t hi0 ?_
    exact ⟨rfl, rfl, ⟨_, rfl⟩, hR⟩
  obtain ⟨a, ha, rfl⟩ := nI_of hi0
  refine ev_go 100 [] ?_
  refine br_f hi0 ?_
  refine e_H_isNumber1 σ τ r _ ?_
  rcases q_ix r 6 (by decide) with h0 | ⟨k, hk, rfl⟩
  · refine bn_f (xb0 (fun q => h0.elim q.1 q.2)) ?_
    refine ⟨rfl, ?_⟩
    refine ev_go 100 [] ?_
    refine br_f hi0 ?_
    refine e_M_isRow σ τ r _ ?_
    refine bn_f (xb0 (fun q => h0.elim q.1 (fun z => q.2 ((q_5 r).mpr z)))) ?_
    exact ⟨rfl, rfl, ⟨_, rfl⟩, hR⟩
  · refine bn_t (xb1 (in_row6 hk)) ?_
    refine e_G_takeAll σ τ hC hV _ (fun σ1 h1 => ?_)
    refine e_G_countOnward σ1 τ h7 (e := edP P) ⟨h1.2.1, h1.2.2⟩ _ (fun σ2 h2 => ?_)
    have b0 := wy_b31 (e := edP P) (n := pn P) (S := 0) h7 (by omega)
    have hC2 := (hC.ag h1.1 (by decide)).ag h2.1 (by decide)
    have hM2 := (hM.ag h1.1 (by decide)).ag h2.1 (by decide)
    have hG2 : Gr σ2 (pn P) (edP P) := Gr.ag ⟨h1.2.1, h1.2.2⟩ h2.1 (by decide) (by decide)
    have h12 : Ag [31, 32, 34] σ σ2 := (h1.1.mono (by decide)).trans (h2.1.mono (by decide))
    refine ⟨128, rfl, q_in (i := 0) (by decide) (by decide), ?_⟩
    rw [show σ2 34 (0 : Int32).toNatClampNeg = nI (wy (edP P) (pn P) 0) from h2.2 0 (by omega)]
    by_cases hz : a < wy (edP P) (pn P) 0
    · refine br_t (nI_lt hz b0) ?_
      refine e_S_layOrder σ2 τ hC2 hV hG2 h2.2 hz hk (by rw [h2.1 1 (by decide), h1.1 1 (by decide)]; exact hR.1.1) rfl _ (fun σ3 h3 => ?_)
      refine ⟨rfl, ?_⟩
      have hM3 : PM σ3 P := hM2.congr (by rw [h3.1 67 (by omega) (by omega) (by decide)]) (by rw [h3.1 67 (by omega) (by omega) (by decide)]) (by rw [h3.1 67 (by omega) (by omega) (by decide)]) (fun q q1 q2 => h3.1 q (by omega) (by omega) (by simp; omega))
      refine ev_go 100 [] ?_
      refine br_f hi0 ?_
      refine e_M_isRow _ τ _ _ ?_
      refine bn_t (xb1 (in_row hk)) ?_
      refine e_M_findNow σ3 _ hM3 hV _ (fun σ4 h4 => ?_)
      have hM4 := hM3.ag h4.1 (by decide)
      refine e_M_countOrders σ4 _ h7 hM4.1 h4.2.1 _ (fun σ5 h5 => ?_)
      have hM5 := hM4.ag h5.1 (by decide)
      refine br_t (nI_lt hz b0) ?_
      refine e_M_putOrder σ5 τ h7 hM5.1 (h4.2.1.ag h5.1 (by decide)) h5.2 hz hk rfl _ (fun σ6 h6 => ?_)
      have h45 : Ag [85, 86, 87] σ3 σ5 := (h4.1.mono (by decide)).trans (h5.1.mono (by decide))
      refine ⟨rfl, rfl, ⟨_, rfl⟩, ?_⟩
      refine hR.rowed (σ1 := σ5) (L1 := [31, 32, 34, 36, 85, 86, 87]) (L2 := []) hk (show pn P ≤ 40 by omega) (V := fun i => nI (od (edP P) (pn P) a i)) (fun q a b c => ?_) (by decide) ?_ (fun i hi => ?_) (fun q a b _ => h6.1 q a b) (by decide) h6.2.1 h6.2.2
      · simp only [List.mem_cons, List.not_mem_nil, or_false, not_or] at c
        rw [h45 q (by simp; omega), h3.1 q a b (by simp; omega), h12 q (by simp; omega)]
      · rw [h45 9 (by decide), h3.2.1, h12 9 (by decide)]
      · rw [h45 (3 + k) (by simp; omega)]
        exact h3.2.2 i hi
    · refine br_f (nI_nlt (by omega) ha) ?_
      refine e_S_refuse σ2 τ 4 in4 _ ?_
      refine ⟨rfl, ?_⟩
      have hM3 := hM2.ag (Ag.cref (f := 4)) (by decide)
      refine ev_go 100 [] ?_
      refine br_f hi0 ?_
      refine e_M_isRow _ τ _ _ ?_
      refine bn_t (xb1 (in_row hk)) ?_
      refine e_M_findNow _ _ hM3 hV _ (fun σ4 h4 => ?_)
      have hM4 := hM3.ag h4.1 (by decide)
      refine e_M_countOrders σ4 _ h7 hM4.1 h4.2.1 _ (fun σ5 h5 => ?_)
      refine br_f (nI_nlt (by omega) ha) ?_
      refine e_M_finds σ5 τ 4 in4 _ ?_
      exact ⟨rfl, rfl, ⟨_, rfl⟩, hR.fnd h12 (by decide) (f := 4) (by decide) (L2 := [85, 86, 87]) ((h4.1.mono (by decide)).trans (h5.1.mono (by decide))) (by decide)⟩
