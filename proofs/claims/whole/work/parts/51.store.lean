/-! STORES: what agrees outside some cells, rows of naturals, loops with what holds of the store -/
def Ag (L : List Nat) (σ σ' : xS) : Prop := ∀ q, q ∉ L → σ' q = σ q
theorem Ag.refl {L : List Nat} {σ : xS} : Ag L σ σ := fun _ _ => rfl
theorem Ag.trans {L : List Nat} {σ σ' σ'' : xS} (h : Ag L σ σ') (h' : Ag L σ' σ'') : Ag L σ σ'' := fun q hq => (h' q hq).trans (h q hq)
theorem Ag.mono {L L' : List Nat} {σ σ' : xS} (h : Ag L σ σ') (hL : ∀ q, q ∈ L → q ∈ L') : Ag L' σ σ' := fun q hq => h q (fun z => hq (hL q z))
theorem Ag.row {L : List Nat} {σ σ' : xS} {q : Nat} {f : Nat → Int32} (h : Ag L σ σ') (hq : q ∈ L) : Ag L σ (x_row σ' q f) := fun p hp => by
  have hpq : p ≠ q := fun e => hp (e ▸ hq)
  rw [x_row_ne hpq]
  exact h p hp
def Ar (σ : xS) (q n : Nat) (A : Nat → Nat) : Prop := ∀ j, j < n → σ q j = nI (A j)
theorem Ar.ag {σ σ' : xS} {q n : Nat} {A : Nat → Nat} {L : List Nat} (h : Ar σ q n A) (hA : Ag L σ σ') (hq : q ∉ L) : Ar σ' q n A := fun j hj => by
  rw [hA q hq]
  exact h j hj
theorem Ar.up {σ : xS} {q n k v : Nat} {A : Nat → Nat} (h : Ar σ q n A) : Ar (x_row σ q (upd (σ q) k (nI v))) q n (nup A k v) := fun j hj => by
  rw [x_row_eq]
  simp only [upd, nup]
  by_cases e : j = k
  · simp [e]
  · simp [e, h j hj]
theorem Ar.ne {σ : xS} {q q' n : Nat} {A : Nat → Nat} {f : Nat → Int32} (h : Ar σ q n A) (hq : q ≠ q') : Ar (x_row σ q' f) q n A := fun j hj => by
  rw [x_row_ne hq]
  exact h j hj
theorem Ar.congr {σ : xS} {q n : Nat} {A B : Nat → Nat} (h : Ar σ q n A) (hAB : ∀ j, j < n → A j = B j) : Ar σ q n B := fun j hj => by
  rw [h j hj, hAB j hj]
theorem Ar.mono {σ : xS} {q n m : Nat} {A : Nat → Nat} (h : Ar σ q n A) (hm : m ≤ n) : Ar σ q m A := fun j hj => h j (by omega)
/-- read at a place -/
theorem Ar.get {σ : xS} {q n : Nat} {A : Nat → Nat} (h : Ar σ q n A) {j : Nat} (hj : j < n) (hb : j < 2 ^ 31) : σ q (nI j).toNatClampNeg = nI (A j) := by
  rw [nI_clamp hb]
  exact h j hj
theorem PC.ag {σ σ' : xS} {o : Nat} {P : xP} {L : List Nat} (h : PC σ o P) (hA : Ag L σ σ') (hL : ∀ q, q ∈ L → q < o ∨ o + 5 < q) : PC σ' o P := h.congr (fun q q1 q2 => hA q (fun z => by have := hL q z; omega))
theorem PM.ag {σ σ' : xS} {P : xP} {L : List Nat} (h : PM σ P) (hA : Ag L σ σ') (hL : ∀ q, q ∈ L → q ≠ 67 ∧ (q < 74 ∨ 78 < q)) : PM σ' P := by
  have h67 : σ' 67 = σ 67 := hA 67 (fun z => (hL 67 z).1 rfl)
  exact h.congr (by rw [h67]) (by rw [h67]) (by rw [h67]) (fun q q1 q2 => hA q (fun z => by have := hL q z; omega))
/-- cells that the relation doesn't speak of -/
abbrev scrq (q : Nat) : Prop := (23 ≤ q ∧ q ≤ 47) ∨ q = 71 ∨ (79 ≤ q ∧ q ≤ 83) ∨ 85 ≤ q
theorem Rel.ag {σ σ' : xS} {τ : xL} {L : List Nat} (h : Rel σ τ) (hA : Ag L σ σ') (hL : ∀ q, q ∈ L → scrq q) : Rel σ' τ := by
  have e : ∀ q, ¬ scrq q → σ' q = σ q := fun q hq => hA q (fun z => hq (hL q z))
  unfold scrq at e
  refine h.scr ⟨fun q q1 q2 => e q (by omega), fun q q1 q2 => e q (by omega), e 69 (by omega), e 70 (by omega), e 72 (by omega), e 73 (by omega), fun q q1 q2 => e q (by omega), e 84 (by omega), by rw [e 67 (by omega)], by rw [e 67 (by omega)], by rw [e 67 (by omega)]⟩ ?_
  unfold RelA
  rw [e 0 (by omega), e 67 (by omega), e 48 (by omega), e 68 (by omega)]
  exact h.2.2.2
/-- a method evaluates to this answer and to a store of which something holds -/
def Rs (M : xM) (as : List Value) (σ : xS) (τ : xL) (r : Option Value) (Φ : xS → Prop) : Prop := ∀ Q : xQ, (∀ σ', Φ σ' → Q r x_g σ' τ) → Ev M 0 (x_loc as M.2.2.1) [] x_g σ τ Q
theorem ev_lp {M : xM} {pc : Nat} {st : List Value} {g : xG} {Q : xQ} {τ : xL} (N : Nat) (F : Nat → List Value) (I : Nat → xS → Prop)
    (step : ∀ i, i < N → ∀ σ, I i σ → (∀ σ', I (i + 1) σ' → Ev M pc (F (i + 1)) st g σ' τ Q) → Ev M pc (F i) st g σ τ Q)
    (fin : ∀ σ, I N σ → Ev M pc (F N) st g σ τ Q) : ∀ σ, I 0 σ → Ev M pc (F 0) st g σ τ Q := by
  have h : ∀ k, k ≤ N → ∀ σ, I (N - k) σ → Ev M pc (F (N - k)) st g σ τ Q := by
    intro k
    induction k with
    | zero => exact fun _ => fin
    | succ k ih =>
      intro hk σ hI
      have := ih (by omega)
      have e : N - k = N - (k + 1) + 1 := by omega
      rw [e] at this
      exact step _ (by omega) σ hI this
  have := h N (Nat.le_refl N)
  rwa [Nat.sub_self] at this
/-- sets by their members -/
theorem bs_ext {f g : Nat → Bool} {n : Nat} (h : ∀ i, i < n → f i = g i) : bs f n = bs g n := by
  apply Nat.eq_of_testBit_eq
  intro i
  rw [bs_bit, bs_bit]
  by_cases hi : i < n
  · simp [hi, h i hi]
  · simp [hi]
theorem bs_or {f : Nat → Bool} {n i : Nat} (hi : i < n) : bs f n ||| 2 ^ i = bs (fun x => f x || x == i) n := by
  apply Nat.eq_of_testBit_eq
  intro x
  rw [Nat.testBit_or, bs_bit, bs_bit, Nat.testBit_two_pow]
  by_cases hx : x = i
  · subst hx
    simp [hi]
  · by_cases h : x < n
    · simp [h, hx, show ¬ i = x from fun e => hx e.symm]
    · simp [h, show ¬ i = x by omega]
theorem bs_and {f g : Nat → Bool} {n : Nat} : bs f n &&& bs g n = bs (fun x => f x && g x) n := by
  apply Nat.eq_of_testBit_eq
  intro x
  rw [Nat.testBit_and, bs_bit, bs_bit, bs_bit]
  by_cases h : x < n <;> simp [h]
theorem bs_orb {f g : Nat → Bool} {n : Nat} : bs f n ||| bs g n = bs (fun x => f x || g x) n := by
  apply Nat.eq_of_testBit_eq
  intro x
  rw [Nat.testBit_or, bs_bit, bs_bit, bs_bit]
  by_cases h : x < n <;> simp [h]
theorem bs_nd {f g : Nat → Bool} {n : Nat} : nd (bs f n) (bs g n) = bs (fun x => f x && !g x) n := by
  apply Nat.eq_of_testBit_eq
  intro x
  rw [nd_bit, bs_bit, bs_bit, bs_bit]
  by_cases h : x < n <;> simp [h]
theorem bs_all {n : Nat} : bs (fun _ => true) n = 2 ^ n - 1 := by
  apply Nat.eq_of_testBit_eq
  intro x
  rw [bs_bit, Nat.testBit_two_pow_sub_one]
  simp
theorem bs_one {i n : Nat} (hi : i < n) : bs (fun x => x == i) n = 2 ^ i := by
  apply Nat.eq_of_testBit_eq
  intro x
  rw [bs_bit, Nat.testBit_two_pow]
  by_cases h : x = i
  · subst h
    simp [hi]
  · simp [h, show ¬ i = x from fun e => h e.symm]
theorem bs_self {s n : Nat} (h : s < 2 ^ n) : bs (fun x => s.testBit x) n = s := by
  apply Nat.eq_of_testBit_eq
  intro x
  rw [bs_bit]
  by_cases hx : x < n
  · simp [hx]
  · simp [hx, bit_big h (Nat.not_lt.mp hx)]
theorem bs_0 {n : Nat} : bs (fun _ => false) n = 0 := by
  apply Nat.eq_of_testBit_eq
  intro x
  rw [bs_bit]
  simp
theorem bs_eq0 {f : Nat → Bool} {n : Nat} : bs f n = 0 ↔ ∀ i, i < n → f i = false := by
  constructor
  · intro h i hi
    have := bs_bit f n i
    rw [h] at this
    simpa [hi] using this.symm
  · intro h
    rw [bs_ext h, bs_0]
theorem p2_7 {n : Nat} (h : n ≤ 7) : 2 ^ n ≤ 128 := Nat.pow_le_pow_right (n := 2) (by decide) h
theorem bs7 (f : Nat → Bool) {n : Nat} (h : n ≤ 7) : bs f n < 128 := Nat.lt_of_lt_of_le (bs_lt f n) (p2_7 h)
/-- some below n -/
def anb (f : Nat → Bool) : Nat → Bool
  | 0 => false
  | n + 1 => anb f n || f n
theorem anb_iff {f : Nat → Bool} : ∀ {n : Nat}, anb f n = true ↔ ∃ i, i < n ∧ f i = true
  | 0 => by simp [anb]
  | n + 1 => by
    simp only [anb, Bool.or_eq_true, anb_iff (n := n)]
    constructor
    · rintro (⟨i, h1, h2⟩ | h)
      · exact ⟨i, by omega, h2⟩
      · exact ⟨n, by omega, h⟩
    · rintro ⟨i, h1, h2⟩
      by_cases e : i = n
      · subst e
        exact Or.inr h2
      · exact Or.inl ⟨i, by omega, h2⟩
theorem Ar.orb {σ : xS} {q n N j i : Nat} {e : Nat → Nat → Bool} (h : Ar σ q N (fun j => bs (e j) n)) (hi : i < n) : Ar (x_row σ q (upd (σ q) j (nI (bs (e j) n ||| 2 ^ i)))) q N (fun j' => bs (fun i' => e j' i' || (j' == j && i' == i)) n) := by
  refine h.up.congr (fun x _ => ?_)
  simp only [nup]
  by_cases hx : x = j
  · subst hx
    simp only [if_true]
    rw [bs_or hi]
    apply bs_ext
    intro y _
    simp
  · rw [if_neg hx]
    apply bs_ext
    intro y _
    simp [hx]
theorem or_r {a x y : Bool} (h : x = y) : (a || x) = (a || y) := by rw [h]
theorem and_r {a x y : Bool} (h : x = y) : (a && x) = (a && y) := by rw [h]
/-- a local that a loop leaves behind -/
def lc (a b : Value) : Nat → Value
  | 0 => a
  | _ + 1 => b
