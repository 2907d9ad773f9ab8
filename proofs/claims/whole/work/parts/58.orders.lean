/-! IN HOW MANY ORDERS -/
def sg (f : Nat → Nat) : Nat → Nat
  | 0 => 0
  | n + 1 => sg f n + f n
theorem sg_congr {f g : Nat → Nat} : ∀ {n : Nat}, (∀ i, i < n → f i = g i) → sg f n = sg g n
  | 0, _ => rfl
  | n + 1, h => by
    simp only [sg]
    rw [sg_congr (n := n) (fun i hi => h i (by omega)), h n (by omega)]
theorem sg_le {f g : Nat → Nat} : ∀ {n : Nat}, (∀ i, i < n → f i ≤ g i) → sg f n ≤ sg g n
  | 0, _ => Nat.le_refl 0
  | n + 1, h => by
    have := sg_le (n := n) (fun i hi => h i (by omega))
    have := h n (by omega)
    simp only [sg]
    omega
theorem sg_const (c : Nat) : ∀ n, sg (fun _ => c) n = n * c
  | 0 => by simp [sg]
  | n + 1 => by
    simp only [sg]
    rw [sg_const c n, Nat.succ_mul]
theorem sg_one {f : Nat → Nat} : ∀ {n i : Nat}, i < n → f i ≤ sg f n
  | 0, i, h => absurd h (Nat.not_lt_zero i)
  | n + 1, i, h => by
    simp only [sg]
    by_cases e : i = n
    · subst e
      omega
    · have := sg_one (f := f) (n := n) (i := i) (by omega)
      omega
/-- one can go next when a set has gone -/
def cf (e : Nat → Nat → Bool) (n S i : Nat) : Bool := !S.testBit i && decide (nd (bs (e i) n) S = 0)
theorem or_lt {S i n : Nat} (hS : S < 2 ^ n) (hi : i < n) : S ||| 2 ^ i < 2 ^ n := Nat.or_lt_two_pow hS (Nat.pow_lt_pow_right (by decide) hi)
theorem or_gt {S i : Nat} (h : S.testBit i = false) : S < S ||| 2 ^ i := by
  have h1 : S ≤ S ||| 2 ^ i := Nat.left_le_or
  rcases Nat.lt_or_eq_of_le h1 with h2 | h2
  · exact h2
  · rw [h2, Nat.testBit_or, Nat.testBit_two_pow_self] at h
    simp at h
theorem cf_no {e : Nat → Nat → Bool} {n S i : Nat} (h : cf e n S i = true) : S.testBit i = false := by
  simp only [cf, Bool.and_eq_true, Bool.not_eq_true'] at h
  exact h.1
def wyf (e : Nat → Nat → Bool) (n : Nat) : Nat → Nat → Nat
  | 0, _ => 1
  | f + 1, S => if S = 2 ^ n - 1 then 1 else sg (fun i => if cf e n S i = true then wyf e n f (S ||| 2 ^ i) else 0) n
/-- in how many ways the others can go on when S has gone -/
def wy (e : Nat → Nat → Bool) (n S : Nat) : Nat := wyf e n (2 ^ n - 1 - S) S
theorem wyf_st {e : Nat → Nat → Bool} {n : Nat} : ∀ f S, S < 2 ^ n → 2 ^ n - 1 - S ≤ f → wyf e n f S = wy e n S := by
  intro f
  induction f using Nat.strongRecOn with
  | ind f ih =>
    intro S hS hf
    unfold wy
    have hp := Nat.one_le_two_pow (n := n)
    by_cases hz : S = 2 ^ n - 1
    · subst hz
      rw [Nat.sub_self]
      cases f with
      | zero => rfl
      | succ f => simp [wyf]
    · obtain ⟨g, hg⟩ : ∃ g, 2 ^ n - 1 - S = g + 1 := ⟨2 ^ n - 1 - S - 1, by omega⟩
      obtain ⟨f', rfl⟩ : ∃ f', f = f' + 1 := ⟨f - 1, by omega⟩
      rw [hg]
      simp only [wyf, if_neg hz]
      apply sg_congr
      intro i hi
      by_cases hc : cf e n S i = true
      · rw [if_pos hc, if_pos hc]
        have h1 := or_lt hS hi
        have h2 := or_gt (cf_no hc)
        rw [ih f' (by omega) _ h1 (by omega), ih g (by omega) _ h1 (by omega)]
      · rw [if_neg hc, if_neg hc]
theorem wy_all (e : Nat → Nat → Bool) (n : Nat) : wy e n (2 ^ n - 1) = 1 := by
  unfold wy
  rw [Nat.sub_self]
  rfl
theorem wy_eq {e : Nat → Nat → Bool} {n S : Nat} (hS : S < 2 ^ n - 1) : wy e n S = sg (fun i => if cf e n S i = true then wy e n (S ||| 2 ^ i) else 0) n := by
  obtain ⟨g, hg⟩ : ∃ g, 2 ^ n - 1 - S = g + 1 := ⟨2 ^ n - 1 - S - 1, by omega⟩
  rw [wy, hg]
  simp only [wyf, if_neg (show ¬ S = 2 ^ n - 1 by omega)]
  apply sg_congr
  intro i hi
  by_cases hc : cf e n S i = true
  · rw [if_pos hc, if_pos hc]
    have h1 := or_lt (show S < 2 ^ n by omega) hi
    have h2 := or_gt (cf_no hc)
    exact wyf_st g _ h1 (by omega)
  · rw [if_neg hc, if_neg hc]
/-- how many have not gone -/
def lf (n S : Nat) : Nat := cnt (fun i => !S.testBit i) n
theorem lf_or {n S i : Nat} (hi : i < n) (h : S.testBit i = false) : lf n (S ||| 2 ^ i) < lf n S := by
  refine cnt_lt (fun k _ hk => ?_) ⟨i, hi, by simp [h], by simp [Nat.testBit_or, Nat.testBit_two_pow_self]⟩
  simp only [Nat.testBit_or, Bool.not_or, Bool.and_eq_true] at hk
  exact hk.1
theorem wy_le {e : Nat → Nat → Bool} {n : Nat} (h7 : n ≤ 7) : ∀ (c S : Nat), S < 2 ^ n → lf n S ≤ c → wy e n S ≤ 7 ^ c := by
  intro c
  induction c with
  | zero =>
    intro S hS hc
    by_cases hz : S = 2 ^ n - 1
    · rw [hz, wy_all]
      exact Nat.le_refl 1
    · rw [wy_eq (by omega), sg_congr (g := fun _ => 0) (fun i hi => ?_), sg_const]
      · simp
      · rw [if_neg]
        intro hcf
        have := lf_or hi (cf_no hcf)
        omega
  | succ c ih =>
    intro S hS hc
    by_cases hz : S = 2 ^ n - 1
    · rw [hz, wy_all]
      exact Nat.one_le_pow _ _ (by decide)
    · rw [wy_eq (by omega)]
      have : sg (fun i => if cf e n S i = true then wy e n (S ||| 2 ^ i) else 0) n ≤ sg (fun _ => 7 ^ c) n := by
        apply sg_le
        intro i hi
        by_cases hcf : cf e n S i = true
        · rw [if_pos hcf]
          have := lf_or hi (cf_no hcf)
          exact ih _ (or_lt hS hi) (by omega)
        · rw [if_neg hcf]
          exact Nat.zero_le _
      rw [sg_const] at this
      rw [Nat.pow_succ]
      have := Nat.mul_le_mul_right (7 ^ c) h7
      rw [Nat.mul_comm (7 ^ c) 7]
      omega
theorem wy_b {e : Nat → Nat → Bool} {n S : Nat} (h7 : n ≤ 7) (hS : S < 2 ^ n) : wy e n S ≤ 823543 := by
  have := wy_le (e := e) h7 7 S hS (Nat.le_trans (cnt_le _ n) h7)
  exact this
theorem wy_b31 {e : Nat → Nat → Bool} {n S : Nat} (h7 : n ≤ 7) (hS : S < 2 ^ n) : wy e n S < 2 ^ 31 := Nat.lt_of_le_of_lt (wy_b h7 hS) (by decide)
theorem nd_0 {a S : Nat} : nd a S = 0 ↔ ∀ k, a.testBit k = true → S.testBit k = true := by
  constructor
  · intro h k hk
    have := nd_bit a S k
    rw [h, Nat.zero_testBit, hk] at this
    simpa using this.symm
  · intro h
    apply Nat.eq_of_testBit_eq
    intro k
    rw [nd_bit, Nat.zero_testBit]
    cases ha : a.testBit k
    · rfl
    · rw [h k ha]
      rfl
theorem cf_iff {e : Nat → Nat → Bool} {n S i : Nat} : cf e n S i = true ↔ S.testBit i = false ∧ ∀ k, k < n → e i k = true → S.testBit k = true := by
  simp only [cf, Bool.and_eq_true, Bool.not_eq_true', decide_eq_true_eq, nd_0, bs_bit]
  constructor
  · rintro ⟨h1, h2⟩
    exact ⟨h1, fun k hk he => h2 k ⟨hk, he⟩⟩
  · rintro ⟨h1, h2⟩
    exact ⟨h1, fun k hk => h2 k hk.1 hk.2⟩
/-- a set that isn't all lacks one -/
theorem lack {n S : Nat} (hS : S < 2 ^ n) (h : S ≠ 2 ^ n - 1) : ∃ x, x < n ∧ S.testBit x = false := by
  apply Classical.byContradiction
  intro hn
  apply h
  apply Nat.eq_of_testBit_eq
  intro i
  rw [Nat.testBit_two_pow_sub_one]
  by_cases hi : i < n
  · simp only [hi, decide_true]
    cases hb : S.testBit i
    · exact absurd ⟨i, hi, hb⟩ hn
    · rfl
  · simp only [hi, decide_false]
    exact bit_big hS (Nat.not_lt.mp hi)
/-- without a ring some one can go next -/
theorem cf_ex {e : Nat → Nat → Bool} {n S : Nat} (hr : rg e n = false) (hS : S < 2 ^ n) (h : S ≠ 2 ^ n - 1) : ∃ i, i < n ∧ cf e n S i = true := by
  obtain ⟨x, hx, hb⟩ := lack hS h
  obtain ⟨i, hi, hu, hm⟩ := mini hr (u := fun k => !S.testBit k) _ x (Nat.le_refl _) hx (by simp [hb])
  refine ⟨i, hi, cf_iff.mpr ⟨by simpa using hu, fun k hk he => ?_⟩⟩
  cases hbk : S.testBit k
  · have := hm k hk (by simp [hbk])
    rw [he] at this
    exact absurd this (by decide)
  · rfl
theorem wy_pos {e : Nat → Nat → Bool} {n : Nat} (hr : rg e n = false) : ∀ (c S : Nat), S < 2 ^ n → lf n S ≤ c → 1 ≤ wy e n S := by
  intro c
  induction c with
  | zero =>
    intro S hS hc
    by_cases hz : S = 2 ^ n - 1
    · rw [hz, wy_all]
      exact Nat.le_refl 1
    · obtain ⟨i, hi, hcf⟩ := cf_ex hr hS hz
      have := lf_or hi (cf_no hcf)
      omega
  | succ c ih =>
    intro S hS hc
    by_cases hz : S = 2 ^ n - 1
    · rw [hz, wy_all]
      exact Nat.le_refl 1
    · obtain ⟨i, hi, hcf⟩ := cf_ex hr hS hz
      have := lf_or hi (cf_no hcf)
      have h1 := ih _ (or_lt hS hi) (by omega)
      rw [wy_eq (by omega)]
      have h2 := sg_one (f := fun i => if cf e n S i = true then wy e n (S ||| 2 ^ i) else 0) hi
      simp only [if_pos hcf] at h2
      omega
theorem e_G_canFollow (σ : xS) (τ : xL) {n : Nat} (h7 : n ≤ 7) {e : Nat → Nat → Bool} (hB : Ar σ 32 7 (fun j => bs (e j) n)) {S i : Nat} (hS : S < 2 ^ n) (hi : i < n) : Rn m_G_canFollow [.ref 31, .int (nI S), .int (nI i)] σ τ (some (.int (x_b (cf e n S i = true)))) σ τ := by
  intro Q h
  have h128 := p2_7 h7
  refine ev_go 100 [] ?_
  refine e_S_has σ τ (by omega) (by omega) _ ?_
  by_cases t : S.testBit i = true
  · refine bn_t (xb1 t) ?_
    rw [x_b_f (by simp [cf, t])] at h
    exact ⟨Or.inl rfl, h⟩
  · refine bn_f (xb0 t) ?_
    refine ⟨7, rfl, q_in (by omega) (by decide), ?_⟩
    rw [hB.get (by omega) (by omega)]
    have hnd : nd (bs (e i) n) S < 2 ^ 31 := by
      have : nd (bs (e i) n) S < 2 ^ n := Nat.xor_lt_two_pow (bs_lt _ _) (Nat.and_lt_two_pow _ hS)
      omega
    by_cases t2 : nd (bs (e i) n) S = 0
    · refine bn_f (by rw [q_nd, t2]; rfl) ?_
      rw [x_b_t (by simp only [cf, t2]; simpa using t)] at h
      exact ⟨Or.inr rfl, h⟩
    · refine bn_t (by rw [q_nd]; exact nI_ne0 (Nat.pos_of_ne_zero t2) hnd) ?_
      rw [x_b_f (by simp [cf, t2])] at h
      exact ⟨Or.inl rfl, h⟩
theorem m1_sub (x : Int32) : x + (-1) = x - 1 := (Int32.sub_eq_add_neg x 1).symm
theorem e_G_countOnward (σ : xS) (τ : xL) {n : Nat} (h7 : n ≤ 7) {e : Nat → Nat → Bool} (hG : Gr σ n e) : Rs m_G_countOnward [.ref 31] σ τ none (fun σ' => Ag [34] σ σ' ∧ Ar σ' 34 (2 ^ n) (wy e n)) := by
  intro Q h
  have h128 := p2_7 h7
  have hp := Nat.one_le_two_pow (n := n)
  refine ev_go 100 [17] ?_
  refine ⟨128, rfl, by rw [hG.1.2]; exact q_in (by omega) (by decide), ?_⟩
  show Ev m_G_countOnward 17 [.ref 31, .int (σ 31 1 - 1), .null, .null] [] x_g (x_row σ 34 (upd (σ 34) (σ 31 1).toNatClampNeg 1)) τ Q
  rw [hG.1.2, cl7 (by omega)]
  refine ev_lj (α := Value × Value) (M := m_G_countOnward) (pc := 17) (st := []) (g := x_g) (Q := Q) (τ := τ) (2 ^ n - 1) (fun k u => [.ref 31, .int (nI (2 ^ n - 1 - k) - 1), u.1, u.2]) (fun k σ' => Ag [34] σ σ' ∧ ∀ S, 2 ^ n - 1 - k ≤ S → S < 2 ^ n → σ' 34 S = nI (wy e n S)) (fun k hk u σ1 hI kk => ?_) (fun u σ1 hI => ?_) (_, _) _ ⟨Ag.refl.row (by decide), fun S h1 h2 => ?_⟩
  · obtain ⟨s, hs⟩ : ∃ s, 2 ^ n - 1 - k = s + 1 := ⟨2 ^ n - 1 - k - 1, by omega⟩
    rw [hs, nI_pred]
    have hG1 := hG.ag hI.1 (by decide) (by decide)
    refine ev_go 100 [25] ?_
    refine br_f (nI_pos (by omega)) ?_
    refine ev_iter (M := m_G_countOnward) (pc := 25) (st := []) (g := x_g) (Q := Q) n (fun i => ([.ref 31, .int (nI s), .int (nI (sg (fun i => if cf e n s i = true then wy e n (s ||| 2 ^ i) else 0) i)), .int (nI i)], σ1, τ)) (fun i hi kk2 => ?_) ?_
    · dsimp only at kk2 ⊢
      refine ev_go 100 [25] ?_
      refine br_f (by rw [hG1.1.1]; exact nI_ge hi (by omega)) ?_
      refine e_G_canFollow σ1 τ h7 hG1.2 (S := s) (by omega) hi _ ?_
      by_cases hc : cf e n s i = true
      · refine br_f (xb1 hc) ?_
        have h1 := or_lt (show s < 2 ^ n by omega) hi
        have h2 := or_gt (cf_no hc)
        refine ⟨128, rfl, by rw [q_shl1 (by omega), q_or]; exact q_in (by omega) (by decide), ?_⟩
        show Ev m_G_countOnward 25 [.ref 31, .int (nI s), .int (nI (sg (fun i => if cf e n s i = true then wy e n (s ||| 2 ^ i) else 0) i) + σ1 34 (nI s ||| ((1 : Int32) <<< (nI i &&& 31))).toNatClampNeg), .int (nI i + 1)] [] x_g σ1 τ Q
        rw [q_shl1 (by omega), q_or, cl7 (by omega), hI.2 _ (by omega) (by omega), nI_1, nI_add]
        simp only [sg, if_pos hc] at kk2
        exact kk2
      · refine br_t (xb0 hc) ?_
        show Ev m_G_countOnward 25 [.ref 31, .int (nI s), .int (nI (sg (fun i => if cf e n s i = true then wy e n (s ||| 2 ^ i) else 0) i)), .int (nI i + 1)] [] x_g σ1 τ Q
        rw [nI_1]
        simp only [sg, if_neg hc, Nat.add_zero] at kk2
        exact kk2
    · dsimp only
      refine ev_go 100 [17] ?_
      refine br_t (by rw [hG1.1.1]; exact nI_le (Nat.le_refl _) (by omega)) ?_
      refine ⟨128, rfl, q_in (by omega) (by decide), ?_⟩
      rw [← wy_eq (by omega), cl7 (by omega)]
      show Ev m_G_countOnward 17 [.ref 31, .int (nI s + (-1)), _, _] [] x_g _ τ Q
      rw [m1_sub, show s = 2 ^ n - 1 - (k + 1) by omega]
      refine kk (_, _) _ ⟨hI.1.row (by decide), fun S h1 h2 => ?_⟩
      rw [x_row_eq]
      simp only [upd]
      by_cases e1 : S = 2 ^ n - 1 - (k + 1)
      · rw [if_pos e1, e1]
      · rw [if_neg e1]
        exact hI.2 S (by omega) h2
  · rw [Nat.sub_self]
    refine ev_go 100 [] ?_
    refine br_t (by decide) ?_
    exact h _ ⟨hI.1, fun S hS => hI.2 S (by omega) hS⟩
  · have : S = 2 ^ n - 1 := by omega
    subst this
    rw [x_row_eq, wy_all]
    simp only [upd, if_true]
    rfl
theorem e_M_countOrders (σ : xS) (τ : xL) {n : Nat} (h7 : n ≤ 7) (hn : σ 67 10 = nI n) {e : Nat → Nat → Bool} (hB : Mr σ n e) : Rs m_M_countOrders [.ref 67] σ τ (some (.int (nI (wy e n 0)))) (fun σ' => Ag [87] σ σ' ∧ Ar σ' 87 (2 ^ n) (wy e n)) := by
  intro Q h
  have h128 := p2_7 h7
  have hp := Nat.one_le_two_pow (n := n)
  have e0 : (1 : Int32) <<< (σ 67 10 &&& 31) - 1 = nI (2 ^ n - 1) := by
    rw [hn, q_shl1 (by omega)]
    exact pk_sub (a := 2 ^ n) (b := 1) hp
  refine ev_go 100 [20] ?_
  refine ⟨128, rfl, by rw [e0]; exact q_in (by omega) (by decide), ?_⟩
  show Ev m_M_countOrders 20 [.ref 67, .int ((1 : Int32) <<< (σ 67 10 &&& 31) - 1), .int ((1 : Int32) <<< (σ 67 10 &&& 31) - 1 - 1), .null, .null] [] x_g (x_row σ 87 (upd (σ 87) ((1 : Int32) <<< (σ 67 10 &&& 31) - 1).toNatClampNeg 1)) τ Q
  rw [e0, cl7 (by omega)]
  refine ev_lj (α := Value × Value) (M := m_M_countOrders) (pc := 20) (st := []) (g := x_g) (Q := Q) (τ := τ) (2 ^ n - 1) (fun k u => [.ref 67, .int (nI (2 ^ n - 1)), .int (nI (2 ^ n - 1 - k) - 1), u.1, u.2]) (fun k σ' => Ag [87] σ σ' ∧ ∀ S, 2 ^ n - 1 - k ≤ S → S < 2 ^ n → σ' 87 S = nI (wy e n S)) (fun k hk u σ1 hI kk => ?_) (fun u σ1 hI => ?_) (_, _) _ ⟨Ag.refl.row (by decide), fun S h1 h2 => ?_⟩
  · obtain ⟨s, hs⟩ : ∃ s, 2 ^ n - 1 - k = s + 1 := ⟨2 ^ n - 1 - k - 1, by omega⟩
    rw [hs, nI_pred]
    have hB1 : Ar σ1 85 7 (fun j => bs (e j) n) := hB.ag hI.1 (by decide)
    have hn1 : σ1 67 10 = nI n := by rw [hI.1 67 (by decide)]; exact hn
    refine ev_go 100 [29] ?_
    refine br_f (nI_pos (by omega)) ?_
    refine ev_iter (M := m_M_countOrders) (pc := 29) (st := []) (g := x_g) (Q := Q) n (fun i => ([.ref 67, .int (nI (2 ^ n - 1)), .int (nI s), .int (nI (sg (fun i => if cf e n s i = true then wy e n (s ||| 2 ^ i) else 0) i)), .int (nI i)], σ1, τ)) (fun i hi kk2 => ?_) ?_
    · dsimp only at kk2 ⊢
      have no : ¬ cf e n s i = true → Ev m_M_countOrders 29 [.ref 67, .int (nI (2 ^ n - 1)), .int (nI s), .int (nI (sg (fun i => if cf e n s i = true then wy e n (s ||| 2 ^ i) else 0) i) + 0), .int (nI i + 1)] [] x_g σ1 τ Q := by
        intro hc
        rw [nI_1, show (0 : Int32) = nI 0 from rfl, nI_add]
        simp only [sg, if_neg hc, Nat.add_zero] at kk2 ⊢
        exact kk2
      refine ev_go 100 [29] ?_
      refine br_f (by rw [hn1]; exact nI_ge hi (by omega)) ?_
      refine e_M_has σ1 τ (by omega) (by omega) _ ?_
      by_cases t : s.testBit i = true
      · refine bn_t (xb1 t) ?_
        exact no (by simp [cf, t])
      · refine bn_f (xb0 t) ?_
        refine ⟨7, rfl, q_in (by omega) (by decide), ?_⟩
        rw [hB1.get (by omega) (by omega)]
        have hnd : nd (bs (e i) n) s < 2 ^ 31 := by
          have : nd (bs (e i) n) s < 2 ^ n := Nat.xor_lt_two_pow (bs_lt _ _) (Nat.and_lt_two_pow _ (by omega))
          omega
        by_cases t2 : nd (bs (e i) n) s = 0
        · refine bn_f (by rw [q_nd, t2]; rfl) ?_
          have hc : cf e n s i = true := by simp only [cf, t2]; simpa using t
          have h1 := or_lt (show s < 2 ^ n by omega) hi
          have h2 := or_gt (cf_no hc)
          refine ⟨128, rfl, by rw [q_shl1 (by omega), q_or]; exact q_in (by omega) (by decide), ?_⟩
          show Ev m_M_countOrders 29 [.ref 67, .int (nI (2 ^ n - 1)), .int (nI s), .int (nI (sg (fun i => if cf e n s i = true then wy e n (s ||| 2 ^ i) else 0) i) + σ1 87 (nI s ||| ((1 : Int32) <<< (nI i &&& 31))).toNatClampNeg), .int (nI i + 1)] [] x_g σ1 τ Q
          rw [q_shl1 (by omega), q_or, cl7 (by omega), hI.2 _ (by omega) (by omega), nI_1, nI_add]
          simp only [sg, if_pos hc] at kk2
          exact kk2
        · refine bn_t (by rw [q_nd]; exact nI_ne0 (Nat.pos_of_ne_zero t2) hnd) ?_
          exact no (by simp [cf, t2])
    · dsimp only
      refine ev_go 100 [20] ?_
      refine br_t (by rw [hn1]; exact nI_le (Nat.le_refl _) (by omega)) ?_
      refine ⟨128, rfl, q_in (by omega) (by decide), ?_⟩
      rw [← wy_eq (by omega), cl7 (by omega)]
      show Ev m_M_countOrders 20 [.ref 67, .int (nI (2 ^ n - 1)), .int (nI s + (-1)), _, _] [] x_g _ τ Q
      rw [m1_sub, show s = 2 ^ n - 1 - (k + 1) by omega]
      refine kk (_, _) _ ⟨hI.1.row (by decide), fun S h1 h2 => ?_⟩
      rw [x_row_eq]
      simp only [upd]
      by_cases e1 : S = 2 ^ n - 1 - (k + 1)
      · rw [if_pos e1, e1]
      · rw [if_neg e1]
        exact hI.2 S (by omega) h2
  · rw [Nat.sub_self]
    refine ev_go 100 [] ?_
    refine br_t (by decide) ?_
    refine ⟨128, rfl, q_in (i := 0) (by decide) (by decide), ?_⟩
    rw [show σ1 87 (0 : Int32).toNatClampNeg = nI (wy e n 0) from hI.2 0 (by omega) (by omega)]
    exact h _ ⟨hI.1, fun S hS => hI.2 S (by omega) hS⟩
  · have : S = 2 ^ n - 1 := by omega
    subst this
    rw [x_row_eq, wy_all]
    simp only [upd, if_true]
    rfl
