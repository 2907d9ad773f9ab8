/-! COUNTING AND SETS -/
def pop : Nat → Nat → Nat
  | 0, _ => 0
  | k + 1, r => r % 2 + pop k (r / 2)
/-- how many in a set -/
def pp (s : Nat) : Nat := pop 32 s
def cnt (f : Nat → Bool) : Nat → Nat
  | 0 => 0
  | n + 1 => cnt f n + (if f n = true then 1 else 0)
/-- a set by its members below n -/
def bs (f : Nat → Bool) : Nat → Nat
  | 0 => 0
  | n + 1 => if f n = true then bs f n ||| 2 ^ n else bs f n
theorem cnt_le (f : Nat → Bool) : ∀ n, cnt f n ≤ n
  | 0 => Nat.le_refl 0
  | n + 1 => by
    have := cnt_le f n
    simp only [cnt]
    split <;> omega
theorem cnt_congr {f g : Nat → Bool} : ∀ n, (∀ i, i < n → f i = g i) → cnt f n = cnt g n
  | 0, _ => rfl
  | n + 1, h => by
    simp only [cnt]
    rw [cnt_congr n (fun i hi => h i (by omega)), h n (by omega)]
theorem cnt_shift (f : Nat → Bool) : ∀ n, cnt f (n + 1) = (if f 0 = true then 1 else 0) + cnt (fun i => f (i + 1)) n
  | 0 => by simp [cnt]
  | n + 1 => by
    have := cnt_shift f n
    rw [cnt, this, cnt]
    omega
theorem cnt_zero {f : Nat → Bool} : ∀ n, (∀ i, i < n → f i = false) → cnt f n = 0
  | 0, _ => rfl
  | n + 1, h => by
    simp only [cnt]
    rw [cnt_zero n (fun i hi => h i (by omega)), h n (by omega)]
    rfl
theorem cnt_more {f : Nat → Bool} {n : Nat} : ∀ m, (∀ i, n ≤ i → f i = false) → cnt f (n + m) = cnt f n
  | 0, _ => rfl
  | m + 1, h => by
    show cnt f (n + m) + (if f (n + m) = true then 1 else 0) = _
    rw [cnt_more m h, h (n + m) (by omega)]
    rfl
theorem bs_bit (f : Nat → Bool) : ∀ n i, (bs f n).testBit i = (decide (i < n) && f i)
  | 0, i => by simp [bs]
  | n + 1, i => by
    have ih := bs_bit f n i
    simp only [bs]
    by_cases hf : f n = true
    · rw [if_pos hf, Nat.testBit_or, ih, Nat.testBit_two_pow]
      by_cases e : n = i
      · subst e
        simp [hf]
      · by_cases h : i < n
        · simp [h, e, show i < n + 1 by omega]
        · simp [h, e, show ¬ i < n + 1 by omega]
    · rw [if_neg hf, ih]
      by_cases e : i = n
      · subst e
        simp [hf]
      · by_cases h : i < n
        · simp [h, show i < n + 1 by omega]
        · simp [h, show ¬ i < n + 1 by omega]
theorem bs_lt (f : Nat → Bool) (n : Nat) : bs f n < 2 ^ n := by
  apply Nat.lt_pow_two_of_testBit
  intro i hi
  rw [bs_bit]
  simp [show ¬ i < n by omega]
theorem pop_cnt : ∀ k s, pop k s = cnt (fun i => s.testBit i) k
  | 0, _ => rfl
  | k + 1, s => by
    rw [pop, pop_cnt k, cnt_shift]
    congr 1
    · rw [Nat.testBit_zero]
      by_cases h : s % 2 = 1
      · simp [h]
      · have : s % 2 = 0 := by omega
        simp [this]
    · apply cnt_congr
      intro i hi
      rw [Nat.testBit_succ]
theorem bit_big {s n i : Nat} (h : s < 2 ^ n) (hi : n ≤ i) : s.testBit i = false := Nat.testBit_lt_two_pow (Nat.lt_of_lt_of_le h (Nat.pow_le_pow_right (by decide) hi))
theorem pp_cnt {s n : Nat} (h : s < 2 ^ n) (hn : n ≤ 32) : pp s = cnt (fun i => s.testBit i) n := by
  unfold pp
  rw [pop_cnt, show 32 = n + (32 - n) by omega]
  exact cnt_more _ (fun i hi => bit_big h hi)
theorem pp_bs (f : Nat → Bool) {n : Nat} (hn : n ≤ 32) : pp (bs f n) = cnt f n := by
  rw [pp_cnt (bs_lt f n) hn]
  apply cnt_congr
  intro i hi
  rw [bs_bit]
  simp [hi]
theorem pp_le {s n : Nat} (h : s < 2 ^ n) (hn : n ≤ 32) : pp s ≤ n := by
  rw [pp_cnt h hn]
  exact cnt_le _ n
/-- the last member taken off -/
theorem low_even {q : Nat} (hq : 0 < q) : (2 * q) &&& (2 * q - 1) = 2 * (q &&& (q - 1)) := by
  apply Nat.eq_of_testBit_eq
  intro i
  rw [Nat.testBit_and]
  cases i with
  | zero =>
    rw [Nat.testBit_zero, Nat.testBit_zero]
    simp
  | succ i =>
    rw [Nat.testBit_succ, Nat.testBit_succ, Nat.testBit_succ, show 2 * q / 2 = q by omega, show (2 * q - 1) / 2 = q - 1 by omega, show 2 * (q &&& (q - 1)) / 2 = q &&& (q - 1) by omega, Nat.testBit_and]
theorem low_odd (q : Nat) : (2 * q + 1) &&& (2 * q + 1 - 1) = 2 * q := by
  apply Nat.eq_of_testBit_eq
  intro i
  rw [Nat.testBit_and, show 2 * q + 1 - 1 = 2 * q by omega]
  cases i with
  | zero =>
    rw [Nat.testBit_zero, Nat.testBit_zero]
    simp
  | succ i =>
    rw [Nat.testBit_succ, Nat.testBit_succ, show (2 * q + 1) / 2 = q by omega, show 2 * q / 2 = q by omega, Bool.and_self]
theorem pop_low : ∀ k r, 0 < r → r < 2 ^ k → pop k (r &&& (r - 1)) + 1 = pop k r
  | 0, r, h, h2 => by
    simp at h2
    omega
  | k + 1, r, h, h2 => by
    rcases Nat.mod_two_eq_zero_or_one r with e | e
    · obtain ⟨q, rfl⟩ : ∃ q, r = 2 * q := ⟨r / 2, by omega⟩
      have hq : 0 < q := by omega
      rw [low_even hq]
      simp only [pop]
      have ih := pop_low k q hq (by rw [Nat.pow_succ] at h2; omega)
      rw [show 2 * (q &&& (q - 1)) % 2 = 0 by omega, show 2 * (q &&& (q - 1)) / 2 = q &&& (q - 1) by omega, show 2 * q % 2 = 0 by omega, show 2 * q / 2 = q by omega]
      omega
    · obtain ⟨q, rfl⟩ : ∃ q, r = 2 * q + 1 := ⟨r / 2, by omega⟩
      rw [low_odd]
      simp only [pop]
      rw [show 2 * q % 2 = 0 by omega, show 2 * q / 2 = q by omega, show (2 * q + 1) % 2 = 1 by omega, show (2 * q + 1) / 2 = q by omega]
      omega
theorem low_lt {r : Nat} (h : 0 < r) : r &&& (r - 1) < r := Nat.lt_of_le_of_lt Nat.and_le_right (by omega)
theorem pop_0 : ∀ k, pop k 0 = 0
  | 0 => rfl
  | k + 1 => by
    simp only [pop]
    rw [show 0 / 2 = 0 from rfl, pop_0 k]
theorem e_M_bits (σ : xS) (τ : xL) {s : Nat} (hs : s < 2 ^ 31) : Rn m_M_bits [.int (nI s)] σ τ (some (.int (nI (pp s)))) σ τ := by
  intro Q h
  refine ev_go 100 [4] ?_
  have key : ∀ (m r c : Nat), r ≤ m → r < 2 ^ 31 → c + pp r = pp s → Ev m_M_bits 4 [.int (nI s), .int (nI c), .int (nI r)] [] x_g σ τ Q := by
    intro m
    induction m with
    | zero =>
      intro r c hr _ hc
      have : r = 0 := by omega
      subst this
      refine ev_go 100 [4] ?_
      refine br_t rfl ?_
      rw [← hc, show pp 0 = 0 from pop_0 32, Nat.add_zero] at h
      exact h
    | succ m ih =>
      intro r c hr hr2 hc
      rcases Nat.eq_zero_or_pos r with h0 | h0
      · subst h0
        refine ev_go 100 [4] ?_
        refine br_t rfl ?_
        rw [← hc, show pp 0 = 0 from pop_0 32, Nat.add_zero] at h
        exact h
      · have hlt := low_lt h0
        have hp := pop_low 32 r h0 (by omega)
        refine ev_go 100 [4] ?_
        refine br_f (nI_ne0 h0 hr2) ?_
        show Ev m_M_bits 4 [.int (nI s), .int (nI c + 1), .int (nI r &&& (nI r - 1))] [] x_g σ τ Q
        rw [nI_1, show nI r - 1 = nI (r - 1) from pk_sub (a := r) (b := 1) h0, q_and]
        exact ih (r &&& (r - 1)) (c + 1) (by omega) (by omega) (by unfold pp at hc ⊢; omega)
  exact key s s 0 (Nat.le_refl s) hs (Nat.zero_add _)
def jb1 (x : Int32) : Int32 := x - ((x.toUInt32 >>> ((1 : Int32).toUInt32 &&& Int32.toUInt32 31)).toInt32 &&& 1431655765)
def jb2 (x : Int32) : Int32 := (x &&& 858993459) + ((x.toUInt32 >>> ((2 : Int32).toUInt32 &&& Int32.toUInt32 31)).toInt32 &&& 858993459)
def jb3 (x : Int32) : Int32 := (x + (x.toUInt32 >>> ((4 : Int32).toUInt32 &&& Int32.toUInt32 31)).toInt32) &&& 252645135
def jb4 (x : Int32) : Int32 := x + (x.toUInt32 >>> ((8 : Int32).toUInt32 &&& Int32.toUInt32 31)).toInt32
def jb5 (x : Int32) : Int32 := x + (x.toUInt32 >>> ((16 : Int32).toUInt32 &&& Int32.toUInt32 31)).toInt32
theorem jb_ok : ∀ s : Fin 128, jb5 (jb4 (jb3 (jb2 (jb1 (nI s.val))))) &&& 63 = nI (pp s.val) := by decide +kernel
theorem e_J_bitCount (σ : xS) (τ : xL) {s : Nat} (hs : s < 128) : Rn m_J_bitCount [.int (nI s)] σ τ (some (.int (nI (pp s)))) σ τ := by
  intro Q h
  rw [← jb_ok ⟨s, hs⟩] at h
  refine ev_go 100 [] ?_
  exact h
theorem e_S_has (σ : xS) (τ : xL) {s i : Nat} (hs : s < 2 ^ 31) (hi : i < 32) : Rn m_S_has [.int (nI s), .int (nI i)] σ τ (some (.int (x_b (s.testBit i = true)))) σ τ := by
  intro Q h
  refine ev_go 100 [] ?_
  have e := q_bit hs hi
  by_cases hb : s.testBit i = true
  · rw [if_pos hb] at e
    refine br_f (by rw [e]; decide) ?_
    rw [x_b_t hb] at h
    exact ⟨Or.inr rfl, h⟩
  · rw [if_neg hb] at e
    refine br_t (by rw [e]; decide) ?_
    rw [x_b_f hb] at h
    exact ⟨Or.inl rfl, h⟩
theorem e_M_has (σ : xS) (τ : xL) {s i : Nat} (hs : s < 2 ^ 31) (hi : i < 32) : Rn m_M_has [.int (nI s), .int (nI i)] σ τ (some (.int (x_b (s.testBit i = true)))) σ τ := by
  intro Q h
  refine ev_go 100 [] ?_
  have e := q_bit hs hi
  by_cases hb : s.testBit i = true
  · rw [if_pos hb] at e
    refine bn_f (by rw [e]; decide) ?_
    rw [x_b_t hb] at h
    exact ⟨Or.inr rfl, h⟩
  · rw [if_neg hb] at e
    refine bn_t (by rw [e]; decide) ?_
    rw [x_b_f hb] at h
    exact ⟨Or.inl rfl, h⟩
/-- numbers of crossings, of tracks -/
theorem e_P_telling (σ : xS) (τ : xL) {P : xP} (hP : PC σ 17 P) (hV : PV P) : Rn m_P_telling [.ref 17] σ τ (some (.int (nI (cnt (tl P) (pc P))))) σ τ := by
  intro Q h
  have h16 := hV.2.1
  refine ev_go 100 [4] ?_
  refine ev_iter (M := m_P_telling) (pc := 4) (st := []) (g := x_g) (Q := Q) (pc P) (fun i => ([.ref 17, .int (nI (cnt (tl P) i)), .int (nI i)], σ, τ)) (fun i hi kk => ?_) ?_
  · dsimp only at kk ⊢
    refine ev_go 100 [4] ?_
    refine br_f (by rw [hP.2.1]; exact nI_ge hi (by omega)) ?_
    refine e_P_tells σ τ hP hV hi _ ?_
    by_cases ht : tl P i = true
    · refine br_f (xb1 ht) ?_
      show Ev m_P_telling 4 [.ref 17, .int (nI (cnt (tl P) i) + 1), .int (nI i + 1)] [] x_g σ τ Q
      rw [nI_1, nI_1, show cnt (tl P) i + 1 = cnt (tl P) (i + 1) by simp [cnt, ht]]
      exact kk
    · refine br_t (xb0 ht) ?_
      show Ev m_P_telling 4 [.ref 17, .int (nI (cnt (tl P) i)), .int (nI i + 1)] [] x_g σ τ Q
      rw [nI_1, show cnt (tl P) i = cnt (tl P) (i + 1) by simp [cnt, ht]]
      exact kk
  · dsimp only
    refine ev_go 100 [4] ?_
    refine br_t (by rw [hP.2.1]; exact nI_le (Nat.le_refl _) (by omega)) ?_
    exact h
/-- those of a kind -/
def knd (P : xP) (w : Nat) : Nat → Bool := fun i => su (pk P i) w
theorem e_P_ofKind (σ : xS) (τ : xL) {P : xP} (hP : PC σ 17 P) (hV : PV P) {w : Nat} (hw : w ≤ 5) : Rn m_P_ofKind [.ref 17, .int (nI w)] σ τ (some (.int (nI (cnt (knd P w) (pn P))))) σ τ := by
  intro Q h
  have h7 := hV.1
  refine ev_go 100 [4] ?_
  refine ev_iter (M := m_P_ofKind) (pc := 4) (st := []) (g := x_g) (Q := Q) (pn P) (fun i => ([.ref 17, .int (nI w), .int (nI (cnt (knd P w) i)), .int (nI i)], σ, τ)) (fun i hi kk => ?_) ?_
  · dsimp only at kk ⊢
    refine ev_go 100 [4] ?_
    refine br_f (by rw [hP.1]; exact nI_ge hi (by omega)) ?_
    refine e_P_isOfKind σ τ hP hV hi hw _ ?_
    by_cases ht : knd P w i = true
    · refine br_f (xb1 ht) ?_
      show Ev m_P_ofKind 4 [.ref 17, .int (nI w), .int (nI (cnt (knd P w) i) + 1), .int (nI i + 1)] [] x_g σ τ Q
      rw [nI_1, nI_1, show cnt (knd P w) i + 1 = cnt (knd P w) (i + 1) by simp [cnt, ht]]
      exact kk
    · refine br_t (xb0 ht) ?_
      show Ev m_P_ofKind 4 [.ref 17, .int (nI w), .int (nI (cnt (knd P w) i)), .int (nI i + 1)] [] x_g σ τ Q
      rw [nI_1, show cnt (knd P w) i = cnt (knd P w) (i + 1) by simp [cnt, ht]]
      exact kk
  · dsimp only
    refine ev_go 100 [4] ?_
    refine br_t (by rw [hP.1]; exact nI_le (Nat.le_refl _) (by omega)) ?_
    exact h
theorem e_M_tellingBits (σ : xS) (τ : xL) {P : xP} (hP : PM σ P) (hV : PV P) : Rn m_M_tellingBits [.ref 67] σ τ (some (.int (nI (bs (tl P) (pc P))))) σ τ := by
  intro Q h
  have h16 := hV.2.1
  refine ev_go 100 [4] ?_
  refine ev_iter (M := m_M_tellingBits) (pc := 4) (st := []) (g := x_g) (Q := Q) (pc P) (fun i => ([.ref 67, .int (nI (bs (tl P) i)), .int (nI i)], σ, τ)) (fun i hi kk => ?_) ?_
  · dsimp only at kk ⊢
    refine ev_go 100 [4] ?_
    refine br_f (by rw [hP.2.1]; exact nI_ge hi (by omega)) ?_
    refine e_M_isTelling σ τ hP hV hi _ ?_
    by_cases ht : tl P i = true
    · refine br_f (xb1 ht) ?_
      show Ev m_M_tellingBits 4 [.ref 67, .int (nI (bs (tl P) i) ||| ((1 : Int32) <<< (nI i &&& 31))), .int (nI i + 1)] [] x_g σ τ Q
      rw [nI_1, q_shl1 (by omega), q_or, show bs (tl P) i ||| 2 ^ i = bs (tl P) (i + 1) by simp [bs, ht]]
      exact kk
    · refine br_t (xb0 ht) ?_
      show Ev m_M_tellingBits 4 [.ref 67, .int (nI (bs (tl P) i) ||| nI 0), .int (nI i + 1)] [] x_g σ τ Q
      rw [nI_1, q_or, Nat.or_zero, show bs (tl P) i = bs (tl P) (i + 1) by simp [bs, ht]]
      exact kk
  · dsimp only
    refine ev_go 100 [4] ?_
    refine br_t (by rw [hP.2.1]; exact nI_le (Nat.le_refl _) (by omega)) ?_
    exact h
theorem e_M_allOf (σ : xS) (τ : xL) {P : xP} (hP : PM σ P) (hV : PV P) {w : Nat} (hw : w ≤ 5) (hw0 : 0 < w) : Rn m_M_allOf [.ref 67, .int (nI w)] σ τ (some (.int (nI (bs (knd P w) (pn P))))) σ τ := by
  intro Q h
  have h7 := hV.1
  refine ev_go 100 [4] ?_
  refine ev_iter (M := m_M_allOf) (pc := 4) (st := []) (g := x_g) (Q := Q) (pn P) (fun i => ([.ref 67, .int (nI w), .int (nI (bs (knd P w) i)), .int (nI i)], σ, τ)) (fun i hi kk => ?_) ?_
  · dsimp only at kk ⊢
    refine ev_go 100 [4] ?_
    refine br_f (by rw [hP.1]; exact nI_ge hi (by omega)) ?_
    refine e_M_isA σ τ hP hV hi hw hw0 _ ?_
    by_cases ht : knd P w i = true
    · refine br_f (xb1 ht) ?_
      show Ev m_M_allOf 4 [.ref 67, .int (nI w), .int (nI (bs (knd P w) i) ||| ((1 : Int32) <<< (nI i &&& 31))), .int (nI i + 1)] [] x_g σ τ Q
      rw [nI_1, q_shl1 (by omega), q_or, show bs (knd P w) i ||| 2 ^ i = bs (knd P w) (i + 1) by simp [bs, ht]]
      exact kk
    · refine br_t (xb0 ht) ?_
      show Ev m_M_allOf 4 [.ref 67, .int (nI w), .int (nI (bs (knd P w) i) ||| nI 0), .int (nI i + 1)] [] x_g σ τ Q
      rw [nI_1, q_or, Nat.or_zero, show bs (knd P w) i = bs (knd P w) (i + 1) by simp [bs, ht]]
      exact kk
  · dsimp only
    refine ev_go 100 [4] ?_
    refine br_t (by rw [hP.1]; exact nI_le (Nat.le_refl _) (by omega)) ?_
    exact h
