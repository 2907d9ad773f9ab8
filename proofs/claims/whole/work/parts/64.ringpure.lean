/-! THE SHORTEST RING -/
theorem ev_lu {α : Type} {M : xM} {pc : Nat} {st : List Value} {g : xG} {Q : xQ} {τ : xL} (N : Nat) (F : Nat → α → List Value) (I : Nat → α → xS → Prop)
    (step : ∀ i, i < N → ∀ u σ, I i u σ → (∀ u' σ', I (i + 1) u' σ' → Ev M pc (F (i + 1) u') st g σ' τ Q) → Ev M pc (F i u) st g σ τ Q)
    (fin : ∀ u σ, I N u σ → Ev M pc (F N u) st g σ τ Q) : ∀ u σ, I 0 u σ → Ev M pc (F 0 u) st g σ τ Q := by
  have h : ∀ k, k ≤ N → ∀ u σ, I (N - k) u σ → Ev M pc (F (N - k) u) st g σ τ Q := by
    intro k
    induction k with
    | zero => exact fun _ => fin
    | succ k ih =>
      intro hk u σ hI
      have := ih (by omega)
      have e : N - k = N - (k + 1) + 1 := by omega
      rw [e] at this
      exact step _ (by omega) u σ hI this
  have := h N (Nat.le_refl N)
  rwa [Nat.sub_self] at this
/-- who comes in s steps, by tracks above l, to l -/
def bk (e : Nat → Nat → Bool) (n l : Nat) : Nat → Nat → Bool
  | 0 => fun x => x == l
  | s + 1 => fun x => decide (l < x) && anb (fun i => bk e n l s i && e i x) n
/-- l is on a ring of s + 1 -/
def cl (e : Nat → Nat → Bool) (n l s : Nat) : Bool := anb (fun i => bk e n l s i && e i l) n
theorem bk_s {e : Nat → Nat → Bool} {n l s x : Nat} : bk e n l (s + 1) x = true ↔ l < x ∧ ∃ i, i < n ∧ bk e n l s i = true ∧ e i x = true := by
  simp only [bk, Bool.and_eq_true, decide_eq_true_eq, anb_iff]
theorem cl_iff {e : Nat → Nat → Bool} {n l s : Nat} : cl e n l s = true ↔ ∃ i, i < n ∧ bk e n l s i = true ∧ e i l = true := by
  simp only [cl, anb_iff, Bool.and_eq_true]
/-- how far, n: not at all -/
def fD (e : Nat → Nat → Bool) (n l x : Nat) : Nat := fi (fun s => bk e n l s x) n
theorem fi_le {f : Nat → Bool} : ∀ {n : Nat}, fi f n ≤ n
  | 0 => Nat.le_refl 0
  | n + 1 => by
    have := fi_le (f := f) (n := n)
    simp only [fi]
    split
    · omega
    · split <;> omega
theorem fi_no {f : Nat → Bool} : ∀ {n : Nat}, anb f n = false → fi f n = n
  | 0, _ => rfl
  | n + 1, h => by
    simp only [anb, Bool.or_eq_false_iff] at h
    simp only [fi]
    rw [if_neg (by rw [h.1]; decide), if_neg (by rw [h.2]; decide)]
theorem fi_lt {f : Nat → Bool} {n : Nat} (h : fi f n < n) : f (fi f n) = true ∧ ∀ j, j < fi f n → f j = false := by
  cases ha : anb f n
  · rw [fi_no ha] at h
    omega
  · exact (fi_ok ha).2
theorem fi_of {f : Nat → Bool} {n s : Nat} (hs : s < n) (h1 : f s = true) (h2 : ∀ j, j < s → f j = false) : fi f n = s := by
  have ha : anb f n = true := anb_iff.mpr ⟨s, hs, h1⟩
  obtain ⟨a, b, c⟩ := fi_ok ha
  rcases Nat.lt_trichotomy (fi f n) s with h | h | h
  · rw [h2 _ h] at b
    exact absurd b (by decide)
  · exact h
  · rw [c s h] at h1
    exact absurd h1 (by decide)
theorem fi_min {f : Nat → Bool} {n s : Nat} (hs : s < n) (h1 : f s = true) : fi f n ≤ s := by
  have ha : anb f n = true := anb_iff.mpr ⟨s, hs, h1⟩
  obtain ⟨a, b, c⟩ := fi_ok ha
  rcases Nat.lt_or_ge s (fi f n) with h | h
  · rw [c s h] at h1
    exact absurd h1 (by decide)
  · exact h
theorem bk_ge {e : Nat → Nat → Bool} {n l s x : Nat} (h : bk e n l s x = true) : l ≤ x := by
  cases s with
  | zero =>
    simp only [bk, beq_iff_eq] at h
    omega
  | succ s =>
    have := (bk_s.mp h).1
    omega
theorem bk_lt {e : Nat → Nat → Bool} {n l s x : Nat} (he : eIn e n) (hl : l < n) (h : bk e n l s x = true) : x < n := by
  cases s with
  | zero =>
    simp only [bk, beq_iff_eq] at h
    omega
  | succ s =>
    obtain ⟨_, i, _, _, h3⟩ := bk_s.mp h
    exact (he i x h3).1
/-- one step of the search -/
theorem far_step {e : Nat → Nat → Bool} {n l t x : Nat} (ht : t + 1 < n) (hx : l < x) (hno : ¬ fD e n l x ≤ t) : (fD e n l x = t + 1) ↔ ∃ j, j < n ∧ l ≤ j ∧ fD e n l j = t ∧ e j x = true := by
  have hnb : ∀ s, s ≤ t → bk e n l s x = false := by
    intro s hs
    cases hb : bk e n l s x
    · rfl
    · have := fi_min (f := fun s => bk e n l s x) (n := n) (s := s) (by omega) hb
      unfold fD at hno
      omega
  constructor
  · intro h
    have h1 : bk e n l (t + 1) x = true := by
      have := fi_lt (f := fun s => bk e n l s x) (n := n) (by unfold fD at h; omega)
      unfold fD at h
      rw [h] at this
      exact this.1
    obtain ⟨_, i, hi, hb, he⟩ := bk_s.mp h1
    refine ⟨i, hi, bk_ge hb, ?_, he⟩
    refine fi_of (by omega) hb (fun s hs => ?_)
    cases hb2 : bk e n l s i
    · rfl
    · have : bk e n l (s + 1) x = true := bk_s.mpr ⟨hx, i, hi, hb2, he⟩
      rw [hnb (s + 1) (by omega)] at this
      exact absurd this (by decide)
  · rintro ⟨j, hj, hlj, hd, he⟩
    have hb : bk e n l t j = true := by
      have := fi_lt (f := fun s => bk e n l s j) (n := n) (by unfold fD at hd; omega)
      unfold fD at hd
      rw [hd] at this
      exact this.1
    refine fi_of ht (bk_s.mpr ⟨hx, j, hj, hb, he⟩) (fun s hs => hnb s (by omega))
theorem fD_l {e : Nat → Nat → Bool} {n l : Nat} (hl : l < n) : fD e n l l = 0 := fi_of (by omega) (by simp [bk]) (fun j hj => absurd hj (Nat.not_lt_zero j))
theorem fD_below {e : Nat → Nat → Bool} {n l x : Nat} (hx : x < l) : fD e n l x = n := by
  apply fi_no
  apply anb_no.mpr
  intro s _
  cases hb : bk e n l s x
  · rfl
  · have := bk_ge hb
    omega
theorem fD_0 {e : Nat → Nat → Bool} {n l x : Nat} (hn : 0 < n) (h : fD e n l x = 0) : x = l := by
  have := fi_lt (f := fun s => bk e n l s x) (n := n) (by unfold fD at h; omega)
  unfold fD at h
  rw [h] at this
  simpa [bk] using this.1
/-- the ring's tracks -/
def rt (e : Nat → Nat → Bool) (n l s : Nat) : Nat → Nat
  | 0 => l
  | p + 1 => fi (fun i => bk e n l (s - p) i && e i (rt e n l s p)) n
theorem rt_ok {e : Nat → Nat → Bool} {n l s : Nat} (hc : cl e n l s = true) : ∀ p, p < s → rt e n l s (p + 1) < n ∧ bk e n l (s - p) (rt e n l s (p + 1)) = true ∧ e (rt e n l s (p + 1)) (rt e n l s p) = true ∧ ∀ i, i < rt e n l s (p + 1) → (bk e n l (s - p) i && e i (rt e n l s p)) = false
  | 0, hp => by
    obtain ⟨a, b, c⟩ := fi_ok (f := fun i => bk e n l (s - 0) i && e i (rt e n l s 0)) (n := n) hc
    simp only [Bool.and_eq_true] at b
    exact ⟨a, b.1, b.2, c⟩
  | p + 1, hp => by
    obtain ⟨a, b, _, _⟩ := rt_ok hc p (by omega)
    obtain ⟨q, hq⟩ : ∃ q, s - p = q + 1 := ⟨s - p - 1, by omega⟩
    rw [hq] at b
    obtain ⟨_, i, hi, hb, he⟩ := bk_s.mp b
    have ex : anb (fun i => bk e n l (s - (p + 1)) i && e i (rt e n l s (p + 1))) n = true := anb_iff.mpr ⟨i, hi, by
      rw [show s - (p + 1) = q by omega, hb, he]
      rfl⟩
    obtain ⟨a2, b2, c2⟩ := fi_ok ex
    simp only [Bool.and_eq_true] at b2
    exact ⟨a2, b2.1, b2.2, c2⟩
theorem rt_gt {e : Nat → Nat → Bool} {n l s : Nat} (hc : cl e n l s = true) {p : Nat} (hp : p < s) : l < rt e n l s (p + 1) := by
  obtain ⟨_, b, _⟩ := rt_ok hc p hp
  obtain ⟨q, hq⟩ : ∃ q, s - p = q + 1 := ⟨s - p - 1, by omega⟩
  rw [hq] at b
  exact (bk_s.mp b).1
theorem rt_short {e : Nat → Nat → Bool} {n l s : Nat} (hc : cl e n l s = true) : ∀ k d i, k ≤ s → i < n → bk e n l d i = true → e i (rt e n l s k) = true → cl e n l (k + d) = true
  | 0, d, i, _, hi, hb, he => by
    rw [Nat.zero_add]
    exact cl_iff.mpr ⟨i, hi, hb, he⟩
  | k + 1, d, i, hk, hi, hb, he => by
    obtain ⟨a, b, c, _⟩ := rt_ok hc k (by omega)
    have h1 : bk e n l (d + 1) (rt e n l s (k + 1)) = true := bk_s.mpr ⟨rt_gt hc (by omega), i, hi, hb, he⟩
    have := rt_short hc k (d + 1) _ (by omega) a h1 c
    rwa [show k + 1 + d = k + (d + 1) by omega]
/-- how the model finds the next -/
theorem rt_far {e : Nat → Nat → Bool} {n l s : Nat} (hc : cl e n l s = true) (hs : s < n) (hm : ∀ s', s' < s → cl e n l s' = false) {k : Nat} (hk : k < s) {i : Nat} (hi : i < n) : (bk e n l (s - k) i && e i (rt e n l s k)) = true ↔ l < i ∧ e i (rt e n l s k) = true ∧ fD e n l i = s - k := by
  rw [Bool.and_eq_true]
  constructor
  · rintro ⟨hb, he⟩
    have hl : l < i := by
      obtain ⟨q, hq⟩ : ∃ q, s - k = q + 1 := ⟨s - k - 1, by omega⟩
      rw [hq] at hb
      exact (bk_s.mp hb).1
    refine ⟨hl, he, fi_of (by omega) hb (fun d hd => ?_)⟩
    cases hb2 : bk e n l d i
    · rfl
    · have := rt_short hc k d i (by omega) hi hb2 he
      rw [hm (k + d) (by omega)] at this
      exact absurd this (by decide)
  · rintro ⟨hl, he, hd⟩
    have := fi_lt (f := fun s => bk e n l s i) (n := n) (by unfold fD at hd; omega)
    unfold fD at hd
    rw [hd] at this
    exact ⟨this.1, he⟩
/-- a ring by l, in terms of the distances -/
theorem cl_far {e : Nat → Nat → Bool} {n l s : Nat} (he : eIn e n) (hself : ∀ x, e x x = false) (hl : l < n) (hs : s < n) : (cl e n l s = true ∧ ∀ s', s' < s → cl e n l s' = false) ↔ (∃ i, i < n ∧ l < i ∧ e i l = true ∧ fD e n l i = s) ∧ ∀ i, i < n → l < i → e i l = true → s ≤ fD e n l i := by
  have low : ∀ i d, i < n → e i l = true → bk e n l d i = true → l < i := by
    intro i d hi h1 h2
    have := bk_ge h2
    rcases Nat.lt_or_eq_of_le this with h | h
    · exact h
    · subst h
      rw [hself] at h1
      exact absurd h1 (by decide)
  constructor
  · rintro ⟨h1, h2⟩
    have hge : ∀ i, i < n → l < i → e i l = true → s ≤ fD e n l i := by
      intro i hi hli hei
      rcases Nat.lt_or_ge (fD e n l i) s with h | h
      · have := fi_lt (f := fun s => bk e n l s i) (n := n) (by unfold fD at h; omega)
        have c : cl e n l (fD e n l i) = true := cl_iff.mpr ⟨i, hi, this.1, hei⟩
        rw [h2 _ h] at c
        exact absurd c (by decide)
      · exact h
    obtain ⟨i, hi, hb, hei⟩ := cl_iff.mp h1
    have hli := low i s hi hei hb
    have h3 := fi_min (f := fun s => bk e n l s i) (n := n) hs hb
    exact ⟨⟨i, hi, hli, hei, by have := hge i hi hli hei; unfold fD at this ⊢; omega⟩, hge⟩
  · rintro ⟨⟨i, hi, hli, hei, hd⟩, hge⟩
    have hb := fi_lt (f := fun s => bk e n l s i) (n := n) (by unfold fD at hd; omega)
    unfold fD at hd
    rw [hd] at hb
    refine ⟨cl_iff.mpr ⟨i, hi, hb.1, hei⟩, fun s' hs' => ?_⟩
    cases hc : cl e n l s'
    · rfl
    · obtain ⟨j, hj, hbj, hej⟩ := cl_iff.mp hc
      have h1 := hge j hj (low j s' hj hej hbj) hej
      have h2 := fi_min (f := fun s => bk e n l s j) (n := n) (s := s') (by omega) hbj
      unfold fD at h1
      omega
