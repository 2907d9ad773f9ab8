/-! WHOSE FEET: the pure part -/
/-- whose tracks can be the same one's -/
def al (P : xP) (i j : Nat) : Bool := !crd P i j && (decide (pz P i ≤ pz P j + 1) && decide (pz P j ≤ pz P i + 1))
theorem op_comm {A B : Nat → Nat} {i j : Nat} : ∀ c, op A B i c j = op B A j c i := fun c => anb_congr (fun k _ => Bool.and_comm _ _)
theorem crd_comm (P : xP) (i j : Nat) : crd P i j = crd P j i := by
  unfold crd
  rw [op_comm (A := po P) (B := pu P) (i := i) (j := j), op_comm (A := pu P) (B := po P) (i := i) (j := j), Bool.or_comm]
theorem al_comm (P : xP) (i j : Nat) : al P i j = al P j i := by
  unfold al
  rw [crd_comm, Bool.and_comm (decide (pz P i ≤ pz P j + 1))]
theorem crd_self {P : xP} (hV : PV P) (i : Nat) : crd P i i = false := by
  have h : ∀ (A B : Nat → Nat), (∀ k, k < pc P → A k ≠ B k) → op A B i (pc P) i = false := fun A B h => anb_no.mpr (fun k hk => by
    have := h k hk
    by_cases h1 : A k = i
    · have h2 : B k ≠ i := fun z => this (h1.trans z.symm)
      rw [beq_eq_false_iff_ne.mpr h2, Bool.and_false]
    · rw [beq_eq_false_iff_ne.mpr h1, Bool.false_and])
  unfold crd
  rw [h _ _ (fun k hk => (hV.2.2.2.2 k hk).2.2), h _ _ (fun k hk z => (hV.2.2.2.2 k hk).2.2 z.symm)]
  rfl
theorem al_self {P : xP} (hV : PV P) (i : Nat) : al P i i = true := by
  unfold al
  rw [crd_self hV]
  simp
/-- all of a set can be one's -/
def one (P : xP) (S : Nat) : Bool := !anb (fun i => anb (fun j => S.testBit i && (S.testBit j && !al P i j)) (pn P)) (pn P)
theorem one_iff {P : xP} {S : Nat} : one P S = true ↔ ∀ i j, i < pn P → j < pn P → S.testBit i = true → S.testBit j = true → al P i j = true := by
  unfold one
  rw [Bool.not_eq_true', anb_no]
  constructor
  · intro h i j hi hj h1 h2
    have := anb_no.mp (h i hi) j hj
    rw [h1, h2] at this
    simpa using this
  · intro h i hi
    refine anb_no.mpr (fun j hj => ?_)
    cases h1 : S.testBit i
    · rfl
    · cases h2 : S.testBit j
      · rfl
      · rw [h i j hi hj h1 h2]
        rfl
theorem one_step {P : xP} (hV : PV P) {S t : Nat} (hS : S < 2 ^ pn P) (ht : S.testBit t = true) : one P S = (decide (nd (nd S (2 ^ t)) (bs (al P t) (pn P)) = 0) && one P (nd S (2 ^ t))) := by
  have htn := bit_lt hS ht
  rw [Bool.eq_iff_iff, Bool.and_eq_true, decide_eq_true_eq, one_iff, one_iff, nd_0]
  have hTb : ∀ j, (nd S (2 ^ t)).testBit j = true ↔ S.testBit j = true ∧ j ≠ t := fun j => by rw [nd_at]; simp
  constructor
  · intro h
    refine ⟨fun k hk => ?_, fun i j hi hj h1 h2 => h i j hi hj ((hTb i).mp h1).1 ((hTb j).mp h2).1⟩
    have hk2 := (hTb k).mp hk
    have hkn := bit_lt hS hk2.1
    rw [bs_bit]
    simp [hkn, h t k htn hkn ht hk2.1]
  · rintro ⟨h1, h2⟩ i j hi hj hi2 hj2
    have tk : ∀ k, S.testBit k = true → k ≠ t → al P t k = true := fun k hk hkt => by
      have := h1 k ((hTb k).mpr ⟨hk, hkt⟩)
      rw [bs_bit] at this
      simp only [Bool.and_eq_true] at this
      exact this.2
    by_cases e1 : i = t
    · by_cases e2 : j = t
      · rw [e1, e2]
        exact al_self hV t
      · rw [e1]
        exact tk j hj2 e2
    · by_cases e2 : j = t
      · rw [e2, al_comm]
        exact tk i hi2 e1
      · exact h2 i j hi hj ((hTb i).mpr ⟨hi2, e1⟩) ((hTb j).mpr ⟨hj2, e2⟩)
theorem one_0 (P : xP) : one P 0 = true := one_iff.mpr (fun i j _ _ h => by simp at h)
theorem one_pow {P : xP} (hV : PV P) (x : Nat) : one P (2 ^ x) = true := one_iff.mpr (fun i j _ _ h1 h2 => by
  rw [Nat.testBit_two_pow] at h1 h2
  simp only [decide_eq_true_eq] at h1 h2
  rw [← h1, ← h2]
  exact al_self hV x)
/-- the greatest of a set -/
def tpf (S : Nat) : Nat → Nat
  | 0 => 0
  | i + 1 => if S.testBit i = true then i else tpf S i
def tp (S : Nat) : Nat := tpf S 7
theorem tpf_ok {S : Nat} : ∀ k, (∃ x, x < k ∧ S.testBit x = true) → S.testBit (tpf S k) = true ∧ tpf S k < k ∧ ∀ j, j < k → S.testBit j = true → j ≤ tpf S k
  | 0, ⟨x, hx, _⟩ => absurd hx (Nat.not_lt_zero x)
  | k + 1, ⟨x, hx, hb⟩ => by
    simp only [tpf]
    by_cases h : S.testBit k = true
    · rw [if_pos h]
      exact ⟨h, Nat.lt_succ_self k, fun j hj _ => by omega⟩
    · rw [if_neg h]
      have hxk : x ≠ k := fun z => h (z ▸ hb)
      obtain ⟨a, b, c⟩ := tpf_ok k ⟨x, by omega, hb⟩
      refine ⟨a, by omega, fun j hj hj2 => ?_⟩
      have : j ≠ k := fun z => h (z ▸ hj2)
      exact c j (by omega) hj2
theorem tp_ok {S : Nat} (h0 : ¬ S = 0) (h : S < 128) : S.testBit (tp S) = true ∧ tp S < 7 ∧ ∀ j, S.testBit j = true → j ≤ tp S := by
  obtain ⟨x, hx⟩ := bit0 h0
  have hb : ∀ j, S.testBit j = true → j < 7 := fun j hj => bit_lt (n := 7) h hj
  obtain ⟨a, b, c⟩ := tpf_ok 7 ⟨x, hb x hx, hx⟩
  exact ⟨a, b, fun j hj => c j (hb j hj) hj⟩
theorem sub_le {a b : Nat} (h : ∀ i, a.testBit i = true → b.testBit i = true) : a ≤ b := by
  have : a &&& b = a := Nat.eq_of_testBit_eq (fun i => by
    rw [Nat.testBit_and]
    cases ha : a.testBit i
    · rfl
    · rw [h i ha]
      rfl)
  rw [← this]
  exact Nat.and_le_right
theorem nd_le {S p : Nat} : nd S p ≤ S := sub_le (fun i h => by rw [nd_bit] at h; simp only [Bool.and_eq_true] at h; exact h.1)
theorem nd_lts {S p : Nat} (h0 : ¬ p = 0) (hp : nd p S = 0) : nd S p < S := by
  obtain ⟨x, hx⟩ := bit0 h0
  have hxS := nd_0.mp hp x hx
  refine Nat.lt_of_le_of_ne nd_le (fun z => ?_)
  have : (nd S p).testBit x = true := by rw [z]; exact hxS
  rw [nd_bit, hx] at this
  simp at this
def okC (P : xP) (S p : Nat) : Bool := decide (2 ^ tp S ≤ p) && (decide (nd p S = 0) && one P p)
def okM (P : xP) (S p : Nat) : Bool := decide (0 < p) && (decide (nd p S = 0) && one P p)
def FC (P : xP) (A : Nat → Nat) (S : Nat) : Nat := if S = 0 then 0 else hz (okC P S) (fun p => A (nd S p) + 1) 7 (S + 1)
def FM (P : xP) (A : Nat → Nat) (S : Nat) : Nat := if S = 0 then 0 else hz (okM P S) (fun p => A (nd S p) + 1) 8 (S + 1)
theorem okC_lt {P : xP} {S p : Nat} (h : okC P S p = true) : nd S p < S ∧ okM P S p = true := by
  simp only [okC, okM, Bool.and_eq_true, decide_eq_true_eq] at h ⊢
  have := Nat.one_le_two_pow (n := tp S)
  exact ⟨nd_lts (by omega) h.2.1, by omega, h.2⟩
theorem okM_lt {P : xP} {S p : Nat} (h : okM P S p = true) : nd S p < S := by
  simp only [okM, Bool.and_eq_true, decide_eq_true_eq] at h
  exact nd_lts (by omega) h.2.1
theorem FC_ok {P : xP} (A B : Nat → Nat) (S : Nat) (h : ∀ T, T < S → A T = B T) : FC P A S = FC P B S := by
  unfold FC
  by_cases h0 : S = 0
  · rw [if_pos h0, if_pos h0]
  · rw [if_neg h0, if_neg h0]
    exact hz_congr (fun p hp ho => by rw [h _ (okC_lt ho).1])
theorem FM_ok {P : xP} (A B : Nat → Nat) (S : Nat) (h : ∀ T, T < S → A T = B T) : FM P A S = FM P B S := by
  unfold FM
  by_cases h0 : S = 0
  · rw [if_pos h0, if_pos h0]
  · rw [if_neg h0, if_neg h0]
    exact hz_congr (fun p hp ho => by rw [h _ (okM_lt ho)])
def fwC (P : xP) : Nat → Nat := fxp (FC P)
def fwM (P : xP) : Nat → Nat := fxp (FM P)
theorem fwC_0 {P : xP} : fwC P 0 = 0 := by
  unfold fwC
  rw [fxp_eq FC_ok]
  exact if_pos rfl
theorem fwM_0 {P : xP} : fwM P 0 = 0 := by
  unfold fwM
  rw [fxp_eq FM_ok]
  exact if_pos rfl
theorem fwC_s {P : xP} {S : Nat} (h : ¬ S = 0) : fwC P S = hz (okC P S) (fun p => fwC P (nd S p) + 1) 7 (S + 1) := by
  unfold fwC
  rw [fxp_eq FC_ok]
  exact if_neg h
theorem fwM_s {P : xP} {S : Nat} (h : ¬ S = 0) : fwM P S = hz (okM P S) (fun p => fwM P (nd S p) + 1) 8 (S + 1) := by
  unfold fwM
  rw [fxp_eq FM_ok]
  exact if_neg h
theorem sub_of {S x : Nat} (h : S.testBit x = true) : nd (2 ^ x) S = 0 := nd_0.mpr (fun k hk => by
  rw [Nat.testBit_two_pow] at hk
  simp only [decide_eq_true_eq] at hk
  rw [← hk]
  exact h)
theorem pow_le_of {S x : Nat} (h : S.testBit x = true) : 2 ^ x ≤ S := sub_le (fun i hi => by
  rw [Nat.testBit_two_pow] at hi
  simp only [decide_eq_true_eq] at hi
  rw [← hi]
  exact h)
theorem fwM_le {P : xP} (hV : PV P) : ∀ S, S < 2 ^ pn P → fwM P S ≤ cnt (fun i => S.testBit i) (pn P) := by
  intro S
  induction S using Nat.strongRecOn with
  | ind S ih =>
    intro hS
    by_cases h0 : S = 0
    · rw [h0, fwM_0]
      exact Nat.zero_le _
    obtain ⟨x, hx⟩ := bit0 h0
    have hxn := bit_lt hS hx
    have hT := nd_lt hx
    have ih1 := ih _ hT (by omega)
    have hc : cnt (fun i => (nd S (2 ^ x)).testBit i) (pn P) < cnt (fun i => S.testBit i) (pn P) := cnt_lt (fun i _ h => by rw [nd_at] at h; simp only [Bool.and_eq_true] at h; exact h.1) ⟨x, hxn, hx, nd_no⟩
    have hle := pow_le_of hx
    have h1 : fwM P S ≤ fwM P (nd S (2 ^ x)) + 1 := by
      rw [fwM_s h0]
      refine hz_at (c := fun p => fwM P (nd S p) + 1) (by omega) ?_
      simp only [okM, Bool.and_eq_true, decide_eq_true_eq]
      exact ⟨Nat.two_pow_pos x, sub_of hx, one_pow hV x⟩
    omega
/-- the greatest track's part may come first -/
theorem fwM_top {P : xP} (hV : PV P) (h7 : pn P ≤ 7) : ∀ S, S < 2 ^ pn P → ¬ S = 0 → ∃ q, q.testBit (tp S) = true ∧ nd q S = 0 ∧ one P q = true ∧ fwM P S = fwM P (nd S q) + 1 := by
  have h128 := p2_7 h7
  intro S
  induction S using Nat.strongRecOn with
  | ind S ih =>
    intro hS h0
    have hb := Nat.le_trans (fwM_le hV S hS) (cnt_le _ _)
    obtain ⟨t1, t2, t3⟩ := tp_ok h0 (by omega)
    rcases hz_get (ok := okM P S) (c := fun p => fwM P (nd S p) + 1) (b := 8) (S + 1) with hz | ⟨p, hp, ho, hz⟩
    · rw [fwM_s h0, hz] at hb
      omega
    rw [← fwM_s h0] at hz
    have hlt := okM_lt ho
    simp only [okM, Bool.and_eq_true, decide_eq_true_eq] at ho
    obtain ⟨o1, o2, o3⟩ := ho
    have hpS := nd_0.mp o2
    by_cases hpt : p.testBit (tp S) = true
    · exact ⟨p, hpt, o2, o3, hz⟩
    have hSt : (nd S p).testBit (tp S) = true := by
      rw [nd_bit, t1]
      simpa using hpt
    have hS0 : ¬ nd S p = 0 := fun z => by rw [z] at hSt; simp at hSt
    obtain ⟨a1, a2, a3⟩ := tp_ok hS0 (by omega)
    have etp : tp (nd S p) = tp S := by
      have := a3 _ hSt
      have : (S.testBit (tp (nd S p))) = true := by
        rw [nd_bit] at a1
        simp only [Bool.and_eq_true] at a1
        exact a1.1
      have := t3 _ this
      omega
    obtain ⟨q, q1, q2, q3, q4⟩ := ih _ hlt (by omega) hS0
    rw [etp] at q1
    have hqS' := nd_0.mp q2
    have hqS : ∀ k, q.testBit k = true → S.testBit k = true ∧ p.testBit k = false := fun k hk => by
      have := hqS' k hk
      rw [nd_bit] at this
      simpa using this
    have q2' : nd q S = 0 := nd_0.mpr (fun k hk => (hqS k hk).1)
    refine ⟨q, q1, q2', q3, ?_⟩
    have hq0 : 0 < q := by
      refine Nat.pos_of_ne_zero (fun z => ?_)
      rw [z] at q1
      simp at q1
    have hup : fwM P S ≤ fwM P (nd S q) + 1 := by
      rw [fwM_s h0]
      refine hz_at (c := fun p => fwM P (nd S p) + 1) (i := q) ?_ ?_
      · have : q ≤ S := sub_le (fun i hi => (hqS i hi).1)
        omega
      · simp only [okM, Bool.and_eq_true, decide_eq_true_eq]
        exact ⟨hq0, q2', q3⟩
    have hpq : nd p (nd S q) = 0 := nd_0.mpr (fun k hk => by
      rw [nd_bit, hpS k hk]
      cases hqk : q.testBit k
      · rfl
      · have := (hqS k hqk).2
        rw [hk] at this
        cases this)
    have hSq0 : ¬ nd S q = 0 := fun z => by
      have hp0 : ¬ p = 0 := by omega
      obtain ⟨x, hx⟩ := bit0 hp0
      have := nd_0.mp hpq x hx
      rw [z] at this
      simp at this
    have hdn : fwM P (nd S q) ≤ fwM P (nd (nd S q) p) + 1 := by
      rw [fwM_s hSq0]
      refine hz_at (c := fun p => fwM P (nd (nd S q) p) + 1) (i := p) ?_ ?_
      · have : p ≤ nd S q := sub_le (fun i hi => nd_0.mp hpq i hi)
        omega
      · simp only [okM, Bool.and_eq_true, decide_eq_true_eq]
        exact ⟨o1, hpq, o3⟩
    have ecomm : nd (nd S q) p = nd (nd S p) q := Nat.eq_of_testBit_eq (fun i => by
      simp only [nd_bit]
      cases S.testBit i <;> cases q.testBit i <;> cases p.testBit i <;> rfl)
    rw [ecomm] at hdn
    omega
theorem fw_eq {P : xP} (hV : PV P) (h7 : pn P ≤ 7) : ∀ S, S < 2 ^ pn P → fwC P S = fwM P S := by
  have h128 := p2_7 h7
  intro S
  induction S using Nat.strongRecOn with
  | ind S ih =>
    intro hS
    by_cases h0 : S = 0
    · rw [h0, fwC_0, fwM_0]
    have hb := Nat.le_trans (fwM_le hV S hS) (cnt_le _ _)
    have e : fwC P S = hz (okC P S) (fun p => fwM P (nd S p) + 1) 7 (S + 1) := by
      rw [fwC_s h0]
      exact hz_congr (fun p hp ho => by rw [ih _ (okC_lt ho).1 (by have := (okC_lt ho).1; omega)])
    obtain ⟨q, q1, q2, q3, q4⟩ := fwM_top hV h7 S hS h0
    have hup : fwC P S ≤ fwM P S := by
      rw [e, q4]
      refine hz_at (c := fun p => fwM P (nd S p) + 1) (i := q) ?_ ?_
      · have : q ≤ S := sub_le (fun i hi => nd_0.mp q2 i hi)
        omega
      · simp only [okC, Bool.and_eq_true, decide_eq_true_eq]
        exact ⟨pow_le_of q1, q2, q3⟩
    rcases hz_get (ok := okC P S) (c := fun p => fwM P (nd S p) + 1) (b := 7) (S + 1) with hz | ⟨p, hp, ho, hz⟩
    · rw [← e] at hz
      omega
    · rw [← e] at hz
      have : fwM P S ≤ fwM P (nd S p) + 1 := by
        rw [fwM_s h0]
        exact hz_at (c := fun p => fwM P (nd S p) + 1) hp (okC_lt ho).2
      omega
