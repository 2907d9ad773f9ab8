/-! THE FEWEST CROSSINGS THAT EXPLAIN -/
theorem wl_min {g : Nat → Bool} {b : Nat} : ∀ N, (g (wl g b N).1 = true ∧ (wl g b N).2 = pp (wl g b N).1 ∧ (wl g b N).1 < N ∧ ∀ s, s < N → g s = true → pp s < b → pp (wl g b N).1 < pp s ∨ (pp (wl g b N).1 = pp s ∧ (wl g b N).1 ≤ s)) ∨ ((wl g b N).2 = b ∧ ∀ s, s < N → g s = true → ¬ pp s < b)
  | 0 => Or.inr ⟨rfl, fun s hs => absurd hs (Nat.not_lt_zero s)⟩
  | N + 1 => by
    have ih := wl_min (g := g) (b := b) N
    have hle := (wl_lt (g := g) (b := b) N).1
    simp only [wl]
    by_cases hc : (decide (pp N < (wl g b N).2) && g N) = true
    · rw [if_pos hc]
      simp only [Bool.and_eq_true, decide_eq_true_eq] at hc
      refine Or.inl ⟨hc.2, rfl, Nat.lt_succ_self N, fun s hs hg hb => ?_⟩
      show pp N < pp s ∨ (pp N = pp s ∧ N ≤ s)
      by_cases e : s = N
      · exact Or.inr ⟨by rw [e], by omega⟩
      · rcases ih with ⟨i1, i2, i3, i4⟩ | ⟨i1, i2⟩
        · have := i4 s (by omega) hg hb
          have := hc.1
          omega
        · exact absurd hb (i2 s (by omega) hg)
    · rw [if_neg hc]
      simp only [Bool.and_eq_true, decide_eq_true_eq, not_and] at hc
      rcases ih with ⟨i1, i2, i3, i4⟩ | ⟨i1, i2⟩
      · refine Or.inl ⟨i1, i2, by omega, fun s hs hg hb => ?_⟩
        by_cases e : s = N
        · subst e
          by_cases h : pp s < (wl g b s).2
          · exact absurd hg (hc h)
          · omega
        · exact i4 s (by omega) hg hb
      · refine Or.inr ⟨i1, fun s hs hg hb => ?_⟩
        by_cases e : s = N
        · subst e
          exact absurd hg (hc (by omega))
        · exact i2 s (by omega) hg hb
theorem bs_add (f : Nat → Bool) (n : Nat) : bs f (n + 1) = bs f n + (if f n = true then 2 ^ n else 0) := by
  have hlt := bs_lt f n
  simp only [bs]
  by_cases h : f n = true
  · rw [if_pos h, if_pos h]
    have := Nat.two_pow_add_eq_or_of_lt hlt 1
    rw [Nat.mul_one] at this
    rw [Nat.or_comm, ← this, Nat.add_comm]
  · rw [if_neg h, if_neg h, Nat.add_zero]
theorem sg_w16 (f : Nat → Bool) : ∀ c, sg (fun k => if f k = true then 65536 + 2 ^ k else 0) c = 65536 * cnt f c + bs f c
  | 0 => by simp [sg, cnt, bs]
  | c + 1 => by
    rw [bs_add]
    simp only [sg, cnt, sg_w16 f c]
    by_cases h : f c = true
    · rw [if_pos h, if_pos h, if_pos h]
      omega
    · rw [if_neg h, if_neg h, if_neg h]
      omega
/-- the edges of the wind -/
def ew (P : xP) : Nat → Nat → Bool := fun j i => pw P == 1 && eW P (fun _ => true) j i
theorem ew_in {P : xP} : eIn (ew P) (pn P) := fun j i h => by
  simp only [ew, Bool.and_eq_true] at h
  exact ⟨(eW_lt h.2).1, (eW_lt h.2).2.1⟩
theorem ew_rg (P : xP) : rg (ew P) (pn P) = false := by
  refine anb_no.mpr (fun x hx => ?_)
  cases hxx : wr (ew P) (pn P) x x
  · rfl
  · have := wr_min (R := fun i j => decide (pf P j < pf P i)) (n := pn P) (fun i j h => ?_) (fun i k j hk a b => ?_) (Nat.le_refl _) hxx
    · simp at this
    · simp only [ew, eW, wt, Bool.and_eq_true, decide_eq_true_eq] at h
      exact decide_eq_true (by have := h.2.2.2.2.2.2; omega)
    · simp only [decide_eq_true_eq] at a b ⊢
      omega
theorem ed_eD {P : xP} {s : Nat} {D : Nat → Bool} (h : ∀ k, k < pc P → tl P k = true → s.testBit k = D k) : ed P (fT P s 0) (tT 0) (pw P == 1) = eD (ew P) (pc P) (tl P) D (pu P) (po P) := by
  funext j i
  simp only [ed, eD, ew]
  rw [Bool.or_comm]
  congr 1
  · congr 1
    simp [eW, tT]
  · unfold eC
    refine anb_congr (fun k hk => ?_)
    simp only [fT, Nat.zero_testBit, Bool.not_false, Bool.true_and]
    cases ht : tl P k
    · simp
    · rw [h k hk ht]
      simp
theorem sg_b {g : Nat → Nat} {n b : Nat} (h : ∀ k, k < n → g k ≤ b) : sg g n ≤ n * b := by
  rw [← sg_const]
  exact sg_le h
theorem w16_b {c : Nat} (hc : c ≤ 16) : sg (fun k => 65536 + 2 ^ k) c ≤ 16 * 131072 := by
  refine Nat.le_trans (sg_b (b := 131072) (fun k hk => ?_)) (Nat.mul_le_mul_right _ hc)
  have : 2 ^ k ≤ 2 ^ 16 := Nat.pow_le_pow_right (by decide) (by omega)
  omega
theorem wa_le {m : Nat} {t : Nat → Bool} {w v g : Nat → Nat} (S i : Nat) : wa m t w v g S i ≤ sg g m := sg_le (fun p hp => by
  split
  · exact Nat.le_refl _
  · exact Nat.zero_le _)
/-- which sets of crossings explain -/
def wg (P : xP) (s : Nat) : Bool := decide (nd s (bs (tl P) (pc P)) = 0) && !rg (ed P (fT P s 0) (tT 0) (pw P == 1)) (pn P)
theorem wrong_pure {P : xP} (hV : PV P) : (wl (wg P) 17 (2 ^ pc P)).2 = pp (wl (wg P) 17 (2 ^ pc P)).1 ∧ (wl (wg P) 17 (2 ^ pc P)).1 < 2 ^ pc P ∧ ds (ew P) (pn P) (wa (pc P) (tl P) (pu P) (po P) (fun k => 65536 + 2 ^ k)) (2 ^ pn P - 1) = 65536 * pp (wl (wg P) 17 (2 ^ pc P)).1 + (wl (wg P) 17 (2 ^ pc P)).1 := by
  have h16 := hV.2.1
  have hw : ∀ p, p < pc P → tl P p = true → pu P p < pn P ∧ po P p < pn P ∧ pu P p ≠ po P p := fun p hp _ => by
    obtain ⟨a, b, c⟩ := hV.2.2.2.2 p hp
    exact ⟨b, a, fun z => c z.symm⟩
  have hw2 : ∀ p, p < pc P → tl P p = true → pu P p < pn P ∧ po P p < pn P := fun p hp ht => ⟨(hw p hp ht).1, (hw p hp ht).2.1⟩
  obtain ⟨D, hD1, hD2⟩ := ds_all_ex (t := tl P) (g := fun k => 65536 + 2 ^ k) (ew_rg P) ew_in hw (Nat.lt_of_le_of_lt (w16_b h16) (by decide))
  have hWD : ∀ D : Nat → Bool, sg (fun p => if tl P p = true ∧ D p = true then 65536 + 2 ^ p else 0) (pc P) = 65536 * pp (bs (fun k => tl P k && D k) (pc P)) + bs (fun k => tl P k && D k) (pc P) := by
    intro D
    rw [pp_bs _ (by omega), ← sg_w16]
    refine sg_congr (fun k hk => ?_)
    by_cases hc : tl P k = true ∧ D k = true
    · rw [if_pos hc, if_pos (by simp [hc.1, hc.2])]
    · rw [if_neg hc, if_neg (by simpa using hc)]
  have hSlt := bs_lt (fun k => tl P k && D k) (pc P)
  have hgS : wg P (bs (fun k => tl P k && D k) (pc P)) = true := by
    unfold wg
    rw [ed_eD (D := D) (fun k hk ht => by rw [bs_bit]; simp [hk, ht]), hD1]
    simp only [Bool.not_false, Bool.and_true, decide_eq_true_eq]
    rw [nd_0]
    intro k hk
    rw [bs_bit] at hk ⊢
    simp only [Bool.and_eq_true] at hk ⊢
    exact ⟨hk.1, hk.2.1⟩
  have hpS : pp (bs (fun k => tl P k && D k) (pc P)) < 17 := by
    have := pp_le hSlt (by omega)
    omega
  rcases wl_min (g := wg P) (b := 17) (2 ^ pc P) with ⟨i1, i2, i3, i4⟩ | ⟨i1, i2⟩
  · refine ⟨i2, i3, ?_⟩
    have hlex := i4 _ hSlt hgS hpS
    generalize (wl (wg P) 17 (2 ^ pc P)).1 = d at *
    have hd16 : d < 65536 := Nat.lt_of_lt_of_le i3 (Nat.pow_le_pow_right (n := 2) (by decide) h16)
    simp only [wg, Bool.and_eq_true, decide_eq_true_eq, Bool.not_eq_true'] at i1
    rw [ed_eD (D := fun k => d.testBit k) (fun k hk ht => rfl)] at i1
    have hle := ds_all_le (g := fun k => 65536 + 2 ^ k) i1.2 ew_in hw2
    have ed : bs (fun k => tl P k && d.testBit k) (pc P) = d := by
      refine Eq.trans (bs_ext (fun k hk => ?_)) (bs_self i3)
      cases hb : d.testBit k
      · simp
      · have := nd_0.mp i1.1 k hb
        rw [bs_bit] at this
        simp only [Bool.and_eq_true] at this
        simp [this.2]
    rw [hWD (fun k => d.testBit k), ed] at hle
    rw [hWD D] at hD2
    omega
  · exact absurd hpS (i2 _ hSlt hgS)
