/-! NUMBERS: ints as naturals, sets as bits -/
theorem q_and (a b : Nat) : nI a &&& nI b = nI (a &&& b) := by
  apply Int32.toBitVec_inj.1
  show BitVec.ofNat 32 a &&& BitVec.ofNat 32 b = BitVec.ofNat 32 (a &&& b)
  apply BitVec.eq_of_getLsbD_eq
  intro i hi
  simp [hi]
theorem q_or (a b : Nat) : nI a ||| nI b = nI (a ||| b) := by
  apply Int32.toBitVec_inj.1
  show BitVec.ofNat 32 a ||| BitVec.ofNat 32 b = BitVec.ofNat 32 (a ||| b)
  apply BitVec.eq_of_getLsbD_eq
  intro i hi
  simp [hi]
theorem q_sm : ∀ n, n < 32 → ((nI n &&& 31).toBitVec.smod 32).toNat = n := by decide +kernel
theorem q_shl {a k : Nat} (hk : k < 32) (h : a * 2 ^ k < 2 ^ 32) : nI a <<< (nI k &&& 31) = nI (a * 2 ^ k) := pk_shlN _ k (q_sm k hk) h
theorem q_shl1 {k : Nat} (hk : k < 31) : (1 : Int32) <<< (nI k &&& 31) = nI (2 ^ k) := by
  have h2 : (2 : Nat) ^ k < 2 ^ 31 := Nat.pow_lt_pow_right (by decide) hk
  have := q_shl (a := 1) (k := k) (by omega) (by omega)
  rw [Nat.one_mul] at this
  exact this
theorem q_shr {a k : Nat} (ha : a < 2 ^ 31) (hk : k < 32) : nI a >>> (nI k &&& 31) = nI (a / 2 ^ k) := pk_shrN ha _ k (q_sm k hk)
/-- those of a that are not in b -/
def nd (a b : Nat) : Nat := a ^^^ (a &&& b)
theorem nd_bit (a b i : Nat) : (nd a b).testBit i = (a.testBit i && !b.testBit i) := by
  unfold nd
  rw [Nat.testBit_xor, Nat.testBit_and]
  cases a.testBit i <;> cases b.testBit i <;> rfl
theorem q_m1 : ∀ i, i < 32 → (-1 : Int32).toBitVec.getLsbD i = true := by decide +kernel
theorem q_nd (a b : Nat) : nI a &&& (nI b ^^^ (-1)) = nI (nd a b) := by
  apply Int32.toBitVec_inj.1
  show BitVec.ofNat 32 a &&& (BitVec.ofNat 32 b ^^^ (-1 : Int32).toBitVec) = BitVec.ofNat 32 (nd a b)
  apply BitVec.eq_of_getLsbD_eq
  intro i hi
  rw [BitVec.getLsbD_and, BitVec.getLsbD_xor, q_m1 i hi, BitVec.getLsbD_ofNat, BitVec.getLsbD_ofNat, BitVec.getLsbD_ofNat, nd_bit]
  simp [hi]
theorem q_bit {s i : Nat} (hs : s < 2 ^ 31) (hi : i < 32) : (nI s >>> (nI i &&& 31)) &&& 1 = nI (if s.testBit i then 1 else 0) := by
  rw [q_shr hs hi, show (1 : Int32) = nI 1 from rfl, q_and]
  congr 1
  rw [Nat.and_one_is_mod, Nat.testBit_eq_decide_div_mod_eq]
  by_cases h : s / 2 ^ i % 2 = 1
  · simp [h]
  · have : s / 2 ^ i % 2 = 0 := by omega
    simp [this]
theorem q_eq {a b : Nat} (ha : a < 2 ^ 31) (hb : b < 2 ^ 31) : nI a = nI b ↔ a = b := nI_eq ha hb
/-- an answer that is true or false -/
def x_b (p : Prop) [Decidable p] : Int32 := if p then 1 else 0
theorem x_b_t {p : Prop} [Decidable p] (h : p) : x_b p = 1 := if_pos h
theorem x_b_f {p : Prop} [Decidable p] (h : ¬ p) : x_b p = 0 := if_neg h
theorem x_b_0 {p : Prop} [Decidable p] : x_b p = 0 ↔ ¬ p := by
  by_cases h : p
  · rw [x_b_t h]; simp [h]
  · rw [x_b_f h]; simp [h]
theorem x_b_01 {p : Prop} [Decidable p] : x_b p = 0 ∨ x_b p = 1 := by
  by_cases h : p
  · exact Or.inr (x_b_t h)
  · exact Or.inl (x_b_f h)
/-- a method evaluates: from the arguments and the store to an answer and a store -/
def Rn (M : xM) (as : List Value) (σ : xS) (τ : xL) (r : Option Value) (σ' : xS) (τ' : xL) : Prop := ∀ Q : xQ, Q r x_g σ' τ' → Ev M 0 (x_loc as M.2.2.1) [] x_g σ τ Q
/-- a loop that counts up -/
theorem ev_iter {M : xM} {pc : Nat} {st : List Value} {g : xG} {Q : xQ} (N : Nat) (F : Nat → List Value × xS × xL) (step : ∀ i, i < N → Ev M pc (F (i + 1)).1 st g (F (i + 1)).2.1 (F (i + 1)).2.2 Q → Ev M pc (F i).1 st g (F i).2.1 (F i).2.2 Q) (fin : Ev M pc (F N).1 st g (F N).2.1 (F N).2.2 Q) : Ev M pc (F 0).1 st g (F 0).2.1 (F 0).2.2 Q := by
  have h : ∀ k, k ≤ N → Ev M pc (F (N - k)).1 st g (F (N - k)).2.1 (F (N - k)).2.2 Q := by
    intro k
    induction k with
    | zero => exact fun _ => fin
    | succ k ih =>
      intro hk
      have := ih (by omega)
      have e : N - k = N - (k + 1) + 1 := by omega
      rw [e] at this
      exact step _ (by omega) this
  have := h N (Nat.le_refl N)
  rwa [Nat.sub_self] at this
/-- places in a row: a number below its length -/
theorem q_in {i n : Nat} (h : i < n) (hn : n < 2 ^ 31) : vp_in (nI i) n := vp_in_nI h hn
theorem x_row_same {α : Type} (σ : Nat → Nat → α) (q : Nat) : x_row σ q (σ q) = σ := by
  funext k
  by_cases h : k = q
  · subst h
    exact x_row_eq
  · exact x_row_ne h
theorem x_row_row {α : Type} (σ : Nat → Nat → α) (q : Nat) (f g : Nat → α) : x_row (x_row σ q f) q g = x_row σ q g := by
  funext k
  by_cases h : k = q
  · subst h
    rw [x_row_eq, x_row_eq]
  · rw [x_row_ne h, x_row_ne h, x_row_ne h]
