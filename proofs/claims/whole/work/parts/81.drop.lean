/-! WHAT IS DROPPED: the pure part -/
def fx (F : (Nat → Nat) → Nat → Nat) : Nat → Nat → Nat
  | 0 => fun _ => 0
  | f + 1 => F (fx F f)
def fxp (F : (Nat → Nat) → Nat → Nat) (S : Nat) : Nat := fx F (S + 1) S
theorem fx_st {F : (Nat → Nat) → Nat → Nat} (hF : ∀ A B S, (∀ T, T < S → A T = B T) → F A S = F B S) : ∀ f f' S, S < f → S < f' → fx F f S = fx F f' S
  | 0, _, _, h, _ => absurd h (Nat.not_lt_zero _)
  | _, 0, _, _, h => absurd h (Nat.not_lt_zero _)
  | f + 1, f' + 1, S, h, h' => hF _ _ S (fun T hT => fx_st hF f f' T (by omega) (by omega))
theorem fxp_eq {F : (Nat → Nat) → Nat → Nat} (hF : ∀ A B S, (∀ T, T < S → A T = B T) → F A S = F B S) (S : Nat) : fxp F S = F (fxp F) S := hF _ _ S (fun T hT => fx_st hF _ _ T hT (Nat.lt_succ_self T))
theorem hz_congr {ok : Nat → Bool} {c c' : Nat → Nat} {b : Nat} : ∀ {s : Nat}, (∀ i, i < s → ok i = true → c i = c' i) → hz ok c b s = hz ok c' b s
  | 0, _ => rfl
  | s + 1, h => by
    have ih := hz_congr (b := b) (fun i hi ho => h i (Nat.lt_succ_of_lt hi) ho) (s := s)
    simp only [hz]
    by_cases ho : ok s = true
    · rw [if_pos ho, if_pos ho, ih, h s (Nat.lt_succ_self s) ho]
    · rw [if_neg ho, if_neg ho, ih]
theorem hz_at {ok : Nat → Bool} {c : Nat → Nat} {b : Nat} : ∀ {s i : Nat}, i < s → ok i = true → hz ok c b s ≤ c i
  | s + 1, i, hi, ho => by
    simp only [hz]
    by_cases e : i = s
    · subst e
      rw [if_pos ho]
      exact Nat.min_le_right _ _
    · have := hz_at (c := c) (b := b) (show i < s by omega) ho
      split <;> omega
theorem hz_get {ok : Nat → Bool} {c : Nat → Nat} {b : Nat} : ∀ s, hz ok c b s = b ∨ ∃ i, i < s ∧ ok i = true ∧ hz ok c b s = c i
  | 0 => Or.inl rfl
  | s + 1 => by
    have old : hz ok c b s = b ∨ ∃ i, i < s + 1 ∧ ok i = true ∧ hz ok c b s = c i := by
      rcases hz_get (ok := ok) (c := c) (b := b) s with h | ⟨i, h1, h2, h3⟩
      · exact Or.inl h
      · exact Or.inr ⟨i, Nat.lt_succ_of_lt h1, h2, h3⟩
    simp only [hz]
    by_cases ho : ok s = true
    · rw [if_pos ho]
      by_cases hm : hz ok c b s ≤ c s
      · rw [Nat.min_eq_left hm]
        exact old
      · rw [Nat.min_eq_right (by omega)]
        exact Or.inr ⟨s, Nat.lt_succ_self s, ho, rfl⟩
    · rw [if_neg ho]
      exact old
theorem nd_or {S i : Nat} (h : S.testBit i = true) : nd S (2 ^ i) ||| 2 ^ i = S := by
  apply Nat.eq_of_testBit_eq
  intro j
  rw [Nat.testBit_or, nd_bit, Nat.testBit_two_pow]
  by_cases e : i = j
  · subst e
    simp [h]
  · simp [e]
theorem nd_at {S i j : Nat} : (nd S (2 ^ i)).testBit j = (S.testBit j && !(j == i)) := by
  rw [nd_bit, Nat.testBit_two_pow]
  by_cases e : i = j
  · subst e
    simp
  · have : ¬ j = i := fun z => e z.symm
    simp [e, this]
theorem nd_no {S i : Nat} : (nd S (2 ^ i)).testBit i = false := by rw [nd_at]; simp
theorem nd_lt {S i : Nat} (h : S.testBit i = true) : nd S (2 ^ i) < S := by
  have := or_gt (S := nd S (2 ^ i)) (i := i) nd_no
  rwa [nd_or h] at this
theorem sg_add {f g : Nat → Nat} : ∀ n, sg (fun i => f i + g i) n = sg f n + sg g n
  | 0 => rfl
  | n + 1 => by
    simp only [sg, sg_add n]
    omega
/-- what has to be dropped when i comes behind S -/
def wa (m : Nat) (t : Nat → Bool) (w v g : Nat → Nat) (S i : Nat) : Nat := sg (fun p => if t p = true ∧ w p = i ∧ S.testBit (v p) = true then g p else 0) m
def dF (e : Nat → Nat → Bool) (n : Nat) (a : Nat → Nat → Nat) (A : Nat → Nat) (S : Nat) : Nat := if S = 0 then 0 else hz (fun i => S.testBit i && cf e n (nd S (2 ^ i)) i) (fun i => A (nd S (2 ^ i)) + a (nd S (2 ^ i)) i) 268435456 n
theorem dF_ok {e : Nat → Nat → Bool} {n : Nat} {a : Nat → Nat → Nat} (A B : Nat → Nat) (S : Nat) (h : ∀ T, T < S → A T = B T) : dF e n a A S = dF e n a B S := by
  unfold dF
  by_cases h0 : S = 0
  · rw [if_pos h0, if_pos h0]
  · rw [if_neg h0, if_neg h0]
    refine hz_congr (fun i hi ho => ?_)
    simp only [Bool.and_eq_true] at ho
    rw [h _ (nd_lt ho.1)]
/-- the least weight that is dropped when S comes first -/
def ds (e : Nat → Nat → Bool) (n : Nat) (a : Nat → Nat → Nat) : Nat → Nat := fxp (dF e n a)
theorem ds_0 {e : Nat → Nat → Bool} {n : Nat} {a : Nat → Nat → Nat} : ds e n a 0 = 0 := by
  unfold ds
  rw [fxp_eq dF_ok]
  exact if_pos rfl
theorem ds_s {e : Nat → Nat → Bool} {n : Nat} {a : Nat → Nat → Nat} {S : Nat} (h : ¬ S = 0) : ds e n a S = hz (fun i => S.testBit i && cf e n (nd S (2 ^ i)) i) (fun i => ds e n a (nd S (2 ^ i)) + a (nd S (2 ^ i)) i) 268435456 n := by
  unfold ds
  rw [fxp_eq dF_ok]
  exact if_neg h
theorem ds_b {e : Nat → Nat → Bool} {n : Nat} {a : Nat → Nat → Nat} (S : Nat) : ds e n a S ≤ 268435456 := by
  by_cases h : S = 0
  · rw [h, ds_0]
    decide
  · rw [ds_s h]
    exact hz_le n
section DROP
variable {e : Nat → Nat → Bool} {n m : Nat} {t D : Nat → Bool} {w v g : Nat → Nat}
/-- the edges with the pairs that are not dropped -/
def eD (e : Nat → Nat → Bool) (m : Nat) (t D : Nat → Bool) (w v : Nat → Nat) : Nat → Nat → Bool := fun j i => e j i || anb (fun p => (t p && !D p) && (v p == j && w p == i)) m
theorem eD_e {j i : Nat} (h : e j i = true) : eD e m t D w v j i = true := by simp [eD, h]
theorem eD_p {p : Nat} (hp : p < m) (ht : t p = true) (hD : D p = false) : eD e m t D w v (v p) (w p) = true := by
  simp only [eD, Bool.or_eq_true]
  exact Or.inr (anb_iff.mpr ⟨p, hp, by simp [ht, hD]⟩)
theorem bit0 {S : Nat} (h : ¬ S = 0) : ∃ x, S.testBit x = true := by
  apply Classical.byContradiction
  intro z
  apply h
  apply Nat.eq_of_testBit_eq
  intro i
  cases hb : S.testBit i
  · simp
  · exact absurd ⟨i, hb⟩ z
theorem bit_lt {S x : Nat} (hS : S < 2 ^ n) (h : S.testBit x = true) : x < n := by
  apply Classical.byContradiction
  intro z
  rw [bit_big hS (by omega)] at h
  cases h
/-- no set of pairs whose dropping leaves no ring is lighter -/
theorem ds_le (hr : rg (eD e m t D w v) n = false) (hw : ∀ p, p < m → t p = true → w p < n ∧ v p < n) : ∀ (S : Nat), S < 2 ^ n → (∀ j i, S.testBit j = true → eD e m t D w v j i = true → S.testBit i = true) → ds e n (wa m t w v g) S ≤ sg (fun p => if t p = true ∧ D p = true ∧ S.testBit (w p) = true ∧ S.testBit (v p) = true then g p else 0) m := by
  intro S
  induction S using Nat.strongRecOn with
  | ind S ih =>
    intro hS hcl
    by_cases h0 : S = 0
    · rw [h0, ds_0]
      exact Nat.zero_le _
    obtain ⟨x, hx⟩ := bit0 h0
    have hrT : rg (eT (eD e m t D w v)) n = false := by rw [rg_T]; exact hr
    obtain ⟨i, hi, hSi, hmax⟩ := mini hrT (u := fun k => S.testBit k) _ x (Nat.le_refl _) (bit_lt hS hx) hx
    have hmax : ∀ k, S.testBit k = true → eD e m t D w v k i = false := fun k hk => hmax k (bit_lt hS hk) hk
    have hT := nd_lt hSi
    have hTb : ∀ j, (nd S (2 ^ i)).testBit j = true ↔ S.testBit j = true ∧ j ≠ i := fun j => by rw [nd_at]; simp
    have ihT := ih _ hT (by omega) (fun j k hj hk => by
      obtain ⟨a1, a2⟩ := (hTb j).mp hj
      refine (hTb k).mpr ⟨hcl j k a1 hk, fun z => ?_⟩
      rw [z, hmax j a1] at hk
      cases hk)
    have hcf : cf e n (nd S (2 ^ i)) i = true := cf_iff.mpr ⟨nd_no, fun k hk he => (hTb k).mpr ⟨hcl i k hSi (eD_e he), fun z => by
      rw [z] at he
      have := hmax i hSi
      rw [eD_e he] at this
      cases this⟩⟩
    have h1 : ds e n (wa m t w v g) S ≤ ds e n (wa m t w v g) (nd S (2 ^ i)) + wa m t w v g (nd S (2 ^ i)) i := by
      rw [ds_s h0]
      exact hz_at hi (by simp [hSi, hcf])
    refine Nat.le_trans h1 (Nat.le_trans (Nat.add_le_add_right ihT _) ?_)
    unfold wa
    rw [← sg_add]
    refine sg_le (fun p hp => ?_)
    by_cases ht : t p = true
    · by_cases hwi : w p = i
      · have hn : (nd S (2 ^ i)).testBit (w p) = false := by rw [hwi]; exact nd_no
        rw [if_neg (by rw [hn]; simp), Nat.zero_add]
        by_cases hv : (nd S (2 ^ i)).testBit (v p) = true
        · have hvS := ((hTb _).mp hv).1
          have hDp : D p = true := by
            cases hD : D p
            · have := eD_p (e := e) (w := w) (v := v) hp ht hD
              rw [hwi, hmax _ hvS] at this
              cases this
            · rfl
          rw [if_pos ⟨ht, hwi, hv⟩, if_pos ⟨ht, hDp, by rw [hwi]; exact hSi, hvS⟩]
          exact Nat.le_refl _
        · rw [if_neg (fun z => hv z.2.2)]
          exact Nat.zero_le _
      · rw [if_neg (c := t p = true ∧ w p = i ∧ (nd S (2 ^ i)).testBit (v p) = true) (fun z => hwi z.2.1), Nat.add_zero]
        by_cases hc : t p = true ∧ D p = true ∧ (nd S (2 ^ i)).testBit (w p) = true ∧ (nd S (2 ^ i)).testBit (v p) = true
        · rw [if_pos hc, if_pos ⟨hc.1, hc.2.1, ((hTb _).mp hc.2.2.1).1, ((hTb _).mp hc.2.2.2).1⟩]
          exact Nat.le_refl _
        · rw [if_neg hc]
          exact Nat.zero_le _
    · rw [if_neg (fun z => ht z.1), if_neg (fun z => ht z.1), if_neg (fun z => ht z.1)]
      exact Nat.le_refl _
/-- an order that is just so heavy -/
theorem ds_ge (he : eIn e n) : ∀ (S : Nat), S < 2 ^ n → ds e n (wa m t w v g) S < 268435456 → ∃ f : Nat → Nat, (∀ i k, S.testBit i = true → e i k = true → S.testBit k = true ∧ f k < f i) ∧ (∀ x y, S.testBit x = true → S.testBit y = true → f x = f y → x = y) ∧ (∀ x, S.testBit x = true → f x < S) ∧ sg (fun p => if t p = true ∧ S.testBit (w p) = true ∧ S.testBit (v p) = true ∧ f (v p) < f (w p) then g p else 0) m = ds e n (wa m t w v g) S := by
  intro S
  induction S using Nat.strongRecOn with
  | ind S ih =>
    intro hS hlt
    by_cases h0 : S = 0
    · subst h0
      refine ⟨fun _ => 0, fun i k h => by simp at h, fun x y h => by simp at h, fun x h => by simp at h, ?_⟩
      rw [ds_0, sg_congr (g := fun _ => 0) (fun p hp => if_neg (by simp)), sg_const, Nat.mul_zero]
    have hd := ds_s (e := e) (n := n) (a := wa m t w v g) h0
    rcases hz_get (ok := fun i => S.testBit i && cf e n (nd S (2 ^ i)) i) (c := fun i => ds e n (wa m t w v g) (nd S (2 ^ i)) + wa m t w v g (nd S (2 ^ i)) i) (b := 268435456) n with hb | ⟨i, hi, ho, hval⟩
    · omega
    rw [hval] at hd
    simp only [Bool.and_eq_true] at ho
    obtain ⟨hSi, hcf⟩ := ho
    have hT := nd_lt hSi
    have hTb : ∀ j, (nd S (2 ^ i)).testBit j = true ↔ S.testBit j = true ∧ j ≠ i := fun j => by rw [nd_at]; simp
    obtain ⟨f, f1, f2, f3, f4⟩ := ih _ hT (by omega) (by omega)
    obtain ⟨-, hcf2⟩ := cf_iff.mp hcf
    obtain ⟨f', q1, q2⟩ : ∃ f' : Nat → Nat, f' i = nd S (2 ^ i) ∧ ∀ x, x ≠ i → f' x = f x := ⟨fun x => if x = i then nd S (2 ^ i) else f x, if_pos rfl, fun x h => if_neg h⟩
    refine ⟨f', fun a k ha hk => ?_, fun x y hx hy hxy => ?_, fun x hx => ?_, ?_⟩
    · by_cases hai : a = i
      · subst hai
        have hkT := hcf2 k (he _ _ hk).1 hk
        obtain ⟨k1, k2⟩ := (hTb k).mp hkT
        rw [q1, q2 k k2]
        exact ⟨k1, f3 k hkT⟩
      · obtain ⟨k1, k2⟩ := f1 a k ((hTb a).mpr ⟨ha, hai⟩) hk
        obtain ⟨k3, k4⟩ := (hTb k).mp k1
        rw [q2 a hai, q2 k k4]
        exact ⟨k3, k2⟩
    · by_cases hxi : x = i
      · by_cases hyi : y = i
        · rw [hxi, hyi]
        · rw [hxi, q1, q2 y hyi] at hxy
          have := f3 y ((hTb y).mpr ⟨hy, hyi⟩)
          omega
      · by_cases hyi : y = i
        · rw [hyi, q1, q2 x hxi] at hxy
          have := f3 x ((hTb x).mpr ⟨hx, hxi⟩)
          omega
        · rw [q2 x hxi, q2 y hyi] at hxy
          exact f2 x y ((hTb x).mpr ⟨hx, hxi⟩) ((hTb y).mpr ⟨hy, hyi⟩) hxy
    · by_cases hxi : x = i
      · rw [hxi, q1]
        exact hT
      · rw [q2 x hxi]
        have := f3 x ((hTb x).mpr ⟨hx, hxi⟩)
        omega
    · rw [hd, ← f4]
      unfold wa
      rw [← sg_add]
      refine sg_congr (fun p hp => ?_)
      by_cases ht : t p = true
      · by_cases hwi : w p = i
        · have hn : (nd S (2 ^ i)).testBit (w p) = false := by rw [hwi]; exact nd_no
          rw [if_neg (c := t p = true ∧ (nd S (2 ^ i)).testBit (w p) = true ∧ (nd S (2 ^ i)).testBit (v p) = true ∧ f (v p) < f (w p)) (by rw [hn]; simp), Nat.zero_add]
          by_cases hvi : v p = i
          · rw [if_neg (fun z => by have := z.2.2.2; rw [hvi, hwi] at this; exact Nat.lt_irrefl _ this), if_neg (fun z => ((hTb _).mp z.2.2).2 hvi)]
          · by_cases hv : S.testBit (v p) = true
            · have hvT := (hTb _).mpr ⟨hv, hvi⟩
              rw [if_pos ⟨ht, by rw [hwi]; exact hSi, hv, by rw [hwi, q1, q2 _ hvi]; exact f3 _ hvT⟩, if_pos ⟨ht, hwi, hvT⟩]
            · rw [if_neg (fun z => hv z.2.2.1), if_neg (fun z => hv ((hTb _).mp z.2.2).1)]
        · rw [if_neg (c := t p = true ∧ w p = i ∧ (nd S (2 ^ i)).testBit (v p) = true) (fun z => hwi z.2.1), Nat.add_zero]
          by_cases hvi : v p = i
          · rw [if_neg (fun z => by
              have h3 := f3 _ ((hTb (w p)).mpr ⟨z.2.1, hwi⟩)
              have h4 := z.2.2.2
              rw [hvi, q1, q2 _ hwi] at h4
              omega), if_neg (fun z => ((hTb _).mp z.2.2.1).2 hvi)]
          · have e1 : (S.testBit (w p) = true) ↔ (nd S (2 ^ i)).testBit (w p) = true := by rw [hTb]; simp [hwi]
            have e2 : (S.testBit (v p) = true) ↔ (nd S (2 ^ i)).testBit (v p) = true := by rw [hTb]; simp [hvi]
            have e3 : f' (v p) < f' (w p) ↔ f (v p) < f (w p) := by rw [q2 _ hvi, q2 _ hwi]
            by_cases hc : t p = true ∧ S.testBit (w p) = true ∧ S.testBit (v p) = true ∧ f' (v p) < f' (w p)
            · rw [if_pos hc, if_pos ⟨hc.1, e1.mp hc.2.1, e2.mp hc.2.2.1, e3.mp hc.2.2.2⟩]
            · rw [if_neg hc, if_neg (fun z => hc ⟨z.1, e1.mpr z.2.1, e2.mpr z.2.2.1, e3.mpr z.2.2.2⟩)]
      · rw [if_neg (fun z => ht z.1), if_neg (fun z => ht z.1), if_neg (fun z => ht z.1)]
theorem all_bit {j : Nat} : (2 ^ n - 1).testBit j = true ↔ j < n := by rw [Nat.testBit_two_pow_sub_one]; simp
theorem ds_all_le (hr : rg (eD e m t D w v) n = false) (he : eIn e n) (hw : ∀ p, p < m → t p = true → w p < n ∧ v p < n) : ds e n (wa m t w v g) (2 ^ n - 1) ≤ sg (fun p => if t p = true ∧ D p = true then g p else 0) m := by
  have hp := Nat.one_le_two_pow (n := n)
  refine Nat.le_trans (ds_le hr hw (2 ^ n - 1) (by omega) (fun j i hj h => ?_)) (sg_le (fun p hp => ?_))
  · simp only [eD, Bool.or_eq_true] at h
    rcases h with h | h
    · exact all_bit.mpr (he _ _ h).1
    · obtain ⟨p, hp, h⟩ := anb_iff.mp h
      simp only [Bool.and_eq_true, beq_iff_eq] at h
      rw [← h.2.2]
      exact all_bit.mpr (hw p hp h.1.1).1
  · by_cases hc : t p = true ∧ D p = true
    · rw [if_pos hc]
      split
      · exact Nat.le_refl _
      · exact Nat.zero_le _
    · rw [if_neg hc, if_neg (fun z => hc ⟨z.1, z.2.1⟩)]
      exact Nat.le_refl _
/-- the least weight is that of a set that leaves no ring -/
theorem ds_all_ex (hr : rg e n = false) (he : eIn e n) (hw : ∀ p, p < m → t p = true → w p < n ∧ v p < n ∧ w p ≠ v p) (hb : sg g m < 268435456) : ∃ D : Nat → Bool, rg (eD e m t D w v) n = false ∧ ds e n (wa m t w v g) (2 ^ n - 1) = sg (fun p => if t p = true ∧ D p = true then g p else 0) m := by
  have hp := Nat.one_le_two_pow (n := n)
  have hw2 : ∀ p, p < m → t p = true → w p < n ∧ v p < n := fun p hp ht => ⟨(hw p hp ht).1, (hw p hp ht).2.1⟩
  have e0 : eD e m t (fun _ => true) w v = e := by
    funext j i
    simp only [eD]
    rw [show anb (fun p => (t p && !true) && (v p == j && w p == i)) m = false from anb_no.mpr (fun p hp => by simp)]
    simp
  have hlt : ds e n (wa m t w v g) (2 ^ n - 1) < 268435456 := by
    refine Nat.lt_of_le_of_lt (Nat.le_trans (ds_all_le (D := fun _ => true) (by rw [e0]; exact hr) he hw2) (sg_le (g := g) (fun p hp => ?_))) hb
    split
    · exact Nat.le_refl _
    · exact Nat.zero_le _
  obtain ⟨f, f1, f2, f3, f4⟩ := ds_ge he (2 ^ n - 1) (by omega) hlt
  refine ⟨fun p => decide (f (v p) < f (w p)), ?_, ?_⟩
  · refine anb_no.mpr (fun x hx => ?_)
    cases hxx : wr (eD e m t (fun p => decide (f (v p) < f (w p))) w v) n x x
    · rfl
    · have := wr_min (R := fun i j => decide (f i < f j)) (n := n) (fun i j h => ?_) (fun i k j hk a b => ?_) (Nat.le_refl n) hxx
      · simp at this
      · simp only [eD, Bool.or_eq_true] at h
        rcases h with h | h
        · exact decide_eq_true (f1 j i (all_bit.mpr (he _ _ h).2) h).2
        · obtain ⟨p, hp, h⟩ := anb_iff.mp h
          simp only [Bool.and_eq_true, beq_iff_eq, Bool.not_eq_true', decide_eq_false_iff_not] at h
          obtain ⟨⟨h1, h2⟩, h3, h4⟩ := h
          obtain ⟨a1, a2, a3⟩ := hw p hp h1
          rw [← h3, ← h4]
          have : f (w p) ≠ f (v p) := fun z => a3 (f2 _ _ (all_bit.mpr a1) (all_bit.mpr a2) z)
          exact decide_eq_true (by omega)
      · simp only [decide_eq_true_eq] at a b ⊢
        omega
  · rw [← f4]
    refine sg_congr (fun p hp => ?_)
    by_cases ht : t p = true
    · obtain ⟨a1, a2, a3⟩ := hw p hp ht
      by_cases hc : f (v p) < f (w p)
      · rw [if_pos ⟨ht, all_bit.mpr a1, all_bit.mpr a2, hc⟩, if_pos ⟨ht, decide_eq_true hc⟩]
      · rw [if_neg (fun z => hc z.2.2.2), if_neg (fun z => hc (of_decide_eq_true z.2))]
    · rw [if_neg (fun z => ht z.1), if_neg (fun z => ht z.1)]
end DROP
