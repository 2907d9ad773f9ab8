/-! THE MOST CLAIMS THAT HOLD TOGETHER -/
def hw (g : Nat → Bool) : Nat → Nat × Nat
  | 0 => (0, 0)
  | s + 1 => if (decide ((hw g s).2 ≤ pp s) && g s) = true then (s, pp s + 1) else hw g s
theorem hw_max {g : Nat → Bool} : ∀ N, (g (hw g N).1 = true ∧ (hw g N).2 = pp (hw g N).1 + 1 ∧ (hw g N).1 < N ∧ ∀ s, s < N → g s = true → pp s < pp (hw g N).1 ∨ (pp s = pp (hw g N).1 ∧ (hw g N).1 ≤ s)) ∨ ((hw g N).2 = 0 ∧ ∀ s, s < N → ¬ g s = true)
  | 0 => Or.inr ⟨rfl, fun s hs => absurd hs (Nat.not_lt_zero s)⟩
  | N + 1 => by
    have ih := hw_max (g := g) N
    simp only [hw]
    by_cases hc : (decide ((hw g N).2 ≤ pp N) && g N) = true
    · rw [if_pos hc]
      simp only [Bool.and_eq_true, decide_eq_true_eq] at hc
      refine Or.inl ⟨hc.2, rfl, Nat.lt_succ_self N, fun s hs hg => ?_⟩
      show pp s < pp N ∨ (pp s = pp N ∧ N ≤ s)
      by_cases e : s = N
      · exact Or.inr ⟨by rw [e], by omega⟩
      · rcases ih with ⟨i1, i2, i3, i4⟩ | ⟨i1, i2⟩
        · have := i4 s (by omega) hg
          have := hc.1
          omega
        · exact absurd hg (i2 s (by omega))
    · rw [if_neg hc]
      simp only [Bool.and_eq_true, decide_eq_true_eq, not_and] at hc
      rcases ih with ⟨i1, i2, i3, i4⟩ | ⟨i1, i2⟩
      · refine Or.inl ⟨i1, i2, by omega, fun s hs hg => ?_⟩
        by_cases e : s = N
        · subst e
          by_cases h : (hw g s).2 ≤ pp s
          · exact absurd hg (hc h)
          · omega
        · exact i4 s (by omega) hg
      · refine Or.inr ⟨i1, fun s hs hg => ?_⟩
        by_cases e : s = N
        · subst e
          exact absurd hg (hc (by omega))
        · exact i2 s (by omega) hg
theorem hw_le {g : Nat → Bool} {N n : Nat} (hN : N ≤ 2 ^ n) (hn : n ≤ 32) : (hw g N).2 ≤ n + 1 ∧ (hw g N).1 ≤ N := by
  rcases hw_max (g := g) N with ⟨i1, i2, i3, i4⟩ | ⟨i1, i2⟩
  · have := pp_le (s := (hw g N).1) (n := n) (by omega) hn
    omega
  · refine ⟨by omega, ?_⟩
    have : ∀ N, (hw g N).1 ≤ N := by
      intro N
      induction N with
      | zero => exact Nat.le_refl 0
      | succ N ih =>
        simp only [hw]
        split
        · show N ≤ N + 1
          omega
        · omega
    exact this N
theorem sg_w8 (f : Nat → Bool) : ∀ c, c ≤ 8 → sg (fun k => if f k = true then 256 - 2 ^ k else 0) c + bs f c = 256 * cnt f c
  | 0, _ => by simp [sg, cnt, bs]
  | c + 1, h => by
    have ih := sg_w8 f c (by omega)
    have hp : 2 ^ c ≤ 2 ^ 7 := Nat.pow_le_pow_right (by decide) (by omega)
    rw [bs_add]
    simp only [sg, cnt]
    by_cases hf : f c = true
    · rw [if_pos hf, if_pos hf, if_pos hf]
      omega
    · rw [if_neg hf, if_neg hf, if_neg hf]
      omega
theorem cnt_not (f : Nat → Bool) : ∀ c, cnt f c + cnt (fun k => !f k) c = c
  | 0 => rfl
  | c + 1 => by
    have ih := cnt_not f c
    simp only [cnt]
    by_cases hf : f c = true
    · rw [if_pos hf, if_neg (by simp [hf])]
      omega
    · rw [if_neg hf, if_pos (by simpa using hf)]
      omega
theorem bs_not (f : Nat → Bool) : ∀ c, bs f c + bs (fun k => !f k) c + 1 = 2 ^ c
  | 0 => rfl
  | c + 1 => by
    have ih := bs_not f c
    rw [bs_add, bs_add, Nat.pow_succ]
    by_cases hf : f c = true
    · rw [if_pos hf, if_neg (by simp [hf])]
      omega
    · rw [if_neg hf, if_pos (by simpa using hf)]
      omega
theorem beq_sym (a b : Nat) : (a == b) = (b == a) := by
  by_cases h : a = b
  · rw [h]
  · rw [beq_eq_false_iff_ne.mpr h, beq_eq_false_iff_ne.mpr (fun z => h z.symm)]
/-- the edges with the claims of a set among the first i -/
def cesS (V : Nat → Int32) (e : Nat → Nat → Bool) (s : Nat) : Nat → Nat → Nat → Bool
  | 0 => e
  | i + 1 => if s.testBit i = true then e1 (cesS V e s i) (ca V i) (cb V i) else cesS V e s i
theorem cesS_eD {V : Nat → Int32} {e : Nat → Nat → Bool} {s : Nat} {D : Nat → Bool} : ∀ i, (∀ k, k < i → D k = !s.testBit k) → cesS V e s i = eD e i (fun _ => true) D (ca V) (cb V)
  | 0, _ => by
    funext j x
    simp [cesS, eD, anb]
  | i + 1, h => by
    have ih := cesS_eD (V := V) (e := e) i (fun k hk => h k (by omega))
    funext j x
    simp only [cesS]
    have c1 : (j == cb V i) = (cb V i == j) := beq_sym _ _
    have c2 : (x == ca V i) = (ca V i == x) := beq_sym _ _
    cases hs : s.testBit i
    · rw [if_neg (by decide), ih]
      simp only [eD, anb]
      rw [h i (by omega), hs]
      simp
    · rw [if_pos rfl, ih]
      simp only [eD, anb, e1]
      rw [h i (by omega), hs, c1, c2]
      simp [Bool.or_assoc]
def hgd (V : Nat → Int32) (e : Nat → Nat → Bool) (m n s : Nat) : Bool := !rg (cesS V e s n) m
theorem w8_b {c : Nat} (hc : c ≤ 8) : sg (fun k => 256 - 2 ^ k) c ≤ 8 * 256 := Nat.le_trans (sg_b (b := 256) (fun k hk => Nat.sub_le _ _)) (Nat.mul_le_mul_right _ hc)
theorem hold_pure {V : Nat → Int32} {e : Nat → Nat → Bool} {m n : Nat} (h7 : m ≤ 7) (h8 : n ≤ 8) (hg : ∀ i, i < n → clm V m i) (hr : rg e m = false) (he : eIn e m) : (hw (hgd V e m n) (2 ^ n)).2 = pp (hw (hgd V e m n) (2 ^ n)).1 + 1 ∧ (hw (hgd V e m n) (2 ^ n)).1 < 2 ^ n ∧ ds e m (wa n (fun _ => true) (ca V) (cb V) (fun k => 256 - 2 ^ k)) (2 ^ m - 1) + (2 ^ n - 1 - (hw (hgd V e m n) (2 ^ n)).1) = 256 * (n - pp (hw (hgd V e m n) (2 ^ n)).1) := by
  have hw3 : ∀ p, p < n → (fun _ : Nat => true) p = true → ca V p < m ∧ cb V p < m ∧ ca V p ≠ cb V p := fun p hp _ => (hg p hp).2
  have hw2 : ∀ p, p < n → (fun _ : Nat => true) p = true → ca V p < m ∧ cb V p < m := fun p hp _ => ⟨(hg p hp).2.1, (hg p hp).2.2.1⟩
  obtain ⟨D, hD1, hD2⟩ := ds_all_ex (g := fun k => 256 - 2 ^ k) hr he hw3 (Nat.lt_of_le_of_lt (w8_b h8) (by decide))
  have hWD : ∀ D : Nat → Bool, sg (fun p => if true = true ∧ D p = true then 256 - 2 ^ p else 0) n + bs D n = 256 * cnt D n := by
    intro D
    rw [← sg_w8 D n h8]
    congr 1
    refine sg_congr (fun k hk => ?_)
    by_cases hc : D k = true
    · rw [if_pos ⟨rfl, hc⟩, if_pos hc]
    · rw [if_neg (fun z => hc z.2), if_neg hc]
  have hSlt := bs_lt (fun k => !D k) n
  have hgS : hgd V e m n (bs (fun k => !D k) n) = true := by
    unfold hgd
    rw [cesS_eD (D := D) n (fun k hk => by rw [bs_bit]; simp [hk]), hD1]
    rfl
  have hppS := pp_bs (fun k => !D k) (n := n) (by omega)
  have hcn := cnt_not D n
  have hbn := bs_not D n
  have w1 := hWD D
  have hp8 : 2 ^ n ≤ 2 ^ 8 := Nat.pow_le_pow_right (by decide) h8
  rcases hw_max (g := hgd V e m n) (2 ^ n) with ⟨i1, i2, i3, i4⟩ | ⟨i1, i2⟩
  · refine ⟨i2, i3, ?_⟩
    have hlex := i4 _ hSlt hgS
    generalize (hw (hgd V e m n) (2 ^ n)).1 = d at *
    have i1' : rg (eD e n (fun _ => true) (fun k => !d.testBit k) (ca V) (cb V)) m = false := by
      unfold hgd at i1
      rw [cesS_eD (D := fun k => !d.testBit k) n (fun k hk => rfl)] at i1
      simpa using i1
    have hle := ds_all_le (g := fun k => 256 - 2 ^ k) i1' he hw2
    have w2 := hWD (fun k => !d.testBit k)
    have hcn2 := cnt_not (fun k => d.testBit k) n
    have hbn2 := bs_not (fun k => d.testBit k) n
    rw [bs_self i3] at hbn2
    have hpd := pp_cnt i3 (by omega)
    rw [hD2] at hle ⊢
    omega
  · exact absurd hgS (i2 _ hSlt)
theorem nup_self {A : Nat → Nat} {k : Nat} : nup A k (A k) = A := by
  funext x
  by_cases h : x = k
  · rw [h, nup_eq]
  · rw [nup_ne h]
