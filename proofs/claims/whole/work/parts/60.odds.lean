/-! BY WHAT ODDS -/
theorem sg_pt {F G : Nat → Nat} {s : Nat} : ∀ {N : Nat}, s < N → (∀ k, k < N → k ≠ s → F k = G k) → sg F N + G s = sg G N + F s
  | 0, h, _ => absurd h (Nat.not_lt_zero s)
  | N + 1, h, hk => by
    simp only [sg]
    by_cases e : s = N
    · subst e
      rw [sg_congr (n := s) (fun k hk2 => hk k (by omega) (by omega))]
      omega
    · have := sg_pt (F := F) (G := G) (N := N) (s := s) (by omega) (fun k h1 h2 => hk k (by omega) h2)
      have := hk N (by omega) (fun z => e z.symm)
      omega
theorem sg_nup {A w : Nat → Nat} {T c N : Nat} (hT : T < N) : sg (fun S => nup A T (A T + c) S * w S) N = sg (fun S => A S * w S) N + c * w T := by
  have h := sg_pt (F := fun S => nup A T (A T + c) S * w S) (G := fun S => A S * w S) hT (fun k _ hk => by simp only [nup, if_neg hk])
  have h2 : nup A T (A T + c) T * w T = A T * w T + c * w T := by
    simp only [nup, if_true]
    rw [Nat.add_mul]
  rw [h2] at h
  omega
/-- in how many ways a set can have come first, sets below s having passed it on -/
def cmi (e : Nat → Nat → Bool) (n s : Nat) (A : Nat → Nat) : Nat → Nat → Nat
  | 0 => A
  | i + 1 => if cf e n s i = true then nup (cmi e n s A i) (s ||| 2 ^ i) (cmi e n s A i (s ||| 2 ^ i) + A s) else cmi e n s A i
def cm (e : Nat → Nat → Bool) (n : Nat) : Nat → Nat → Nat
  | 0 => fun x => if x = 0 then 1 else 0
  | s + 1 => cmi e n s (cm e n s) n
theorem cmi_s {e : Nat → Nat → Bool} {n s : Nat} {A : Nat → Nat} : ∀ i x, x ≤ s → cmi e n s A i x = A x
  | 0, x, _ => rfl
  | i + 1, x, hx => by
    simp only [cmi]
    by_cases h : cf e n s i = true
    · rw [if_pos h]
      have := or_gt (cf_no h)
      simp only [nup]
      rw [if_neg (by omega)]
      exact cmi_s i x hx
    · rw [if_neg h]
      exact cmi_s i x hx
theorem cm_dual {e : Nat → Nat → Bool} {n : Nat} {f g : Nat → Nat} (hg : ∀ S, S < 2 ^ n - 1 → g S = f S + sg (fun k => if cf e n S k = true then g (S ||| 2 ^ k) else 0) n) : ∀ s, s ≤ 2 ^ n - 1 → sg (fun S => cm e n s S * (if S < s then f S else g S)) (2 ^ n) = g 0 := by
  have hp := Nat.one_le_two_pow (n := n)
  intro s
  induction s with
  | zero =>
    intro _
    have := sg_pt (F := fun S => cm e n 0 S * (if S < 0 then f S else g S)) (G := fun _ => 0) (N := 2 ^ n) (s := 0) (by omega) (fun k _ hk => by simp [cm, hk])
    simp only [cm, Nat.lt_irrefl, if_false, if_true, Nat.one_mul, Nat.add_zero, sg_const] at this
    simpa [cm] using this
  | succ s ih =>
    intro hs
    have ih := ih (by omega)
    have inner : ∀ i, i ≤ n → sg (fun S => cmi e n s (cm e n s) i S * (if S < s + 1 then f S else g S)) (2 ^ n) = sg (fun S => cm e n s S * (if S < s + 1 then f S else g S)) (2 ^ n) + cm e n s s * sg (fun k => if cf e n s k = true then g (s ||| 2 ^ k) else 0) i := by
      intro i
      induction i with
      | zero => intro _; simp [cmi, sg]
      | succ i ihi =>
        intro hi
        have ihi := ihi (by omega)
        simp only [cmi, sg]
        by_cases h : cf e n s i = true
        · have h1 := or_lt (show s < 2 ^ n by omega) (show i < n by omega)
          have h2 := or_gt (cf_no h)
          simp only [if_pos h]
          rw [sg_nup h1, ihi, if_neg (by omega), Nat.mul_add]
          omega
        · simp only [if_neg h]
          rw [ihi]
          rfl
    show sg (fun S => cmi e n s (cm e n s) n S * (if S < s + 1 then f S else g S)) (2 ^ n) = g 0
    rw [inner n (Nat.le_refl n), ← ih]
    have := sg_pt (F := fun S => cm e n s S * (if S < s + 1 then f S else g S)) (G := fun S => cm e n s S * (if S < s then f S else g S)) (N := 2 ^ n) (s := s) (by omega) (fun k _ hk => by
      by_cases z : k < s
      · simp [z, show k < s + 1 by omega]
      · simp [z, show ¬ k < s + 1 by omega])
    simp only [Nat.lt_irrefl, if_false, Nat.lt_succ_self, if_true] at this
    rw [hg s (by omega), Nat.mul_add] at this
    omega
/-- one more edge: i ahead of j -/
def e1 (e : Nat → Nat → Bool) (i j : Nat) : Nat → Nat → Bool := fun a b => e a b || (a == j && b == i)
theorem cf_e1 {e : Nat → Nat → Bool} {n i j S k : Nat} (hi : i < n) : cf (e1 e i j) n S k = (cf e n S k && (!(k == j) || S.testBit i)) := by
  apply Bool.eq_iff_iff.mpr
  rw [Bool.and_eq_true, cf_iff, cf_iff]
  constructor
  · rintro ⟨h1, h2⟩
    refine ⟨⟨h1, fun x hx he => h2 x hx (by simp [e1, he])⟩, ?_⟩
    by_cases hk : k = j
    · rw [h2 i hi (by simp [e1, hk])]
      simp
    · simp [hk]
  · rintro ⟨⟨h1, h2⟩, h3⟩
    refine ⟨h1, fun x hx he => ?_⟩
    simp only [e1, Bool.or_eq_true, Bool.and_eq_true, beq_iff_eq] at he
    rcases he with he | ⟨rfl, rfl⟩
    · exact h2 x hx he
    · simpa using h3
theorem wy_e1 {e : Nat → Nat → Bool} {n i j : Nat} (hi : i < n) : ∀ (c S : Nat), S < 2 ^ n → lf n S ≤ c → S.testBit i = true → wy (e1 e i j) n S = wy e n S := by
  intro c
  induction c with
  | zero =>
    intro S hS hc hb
    by_cases hz : S = 2 ^ n - 1
    · rw [hz, wy_all, wy_all]
    · obtain ⟨x, hx, hb2⟩ := lack hS hz
      have := lf_or hx hb2
      omega
  | succ c ih =>
    intro S hS hc hb
    by_cases hz : S = 2 ^ n - 1
    · rw [hz, wy_all, wy_all]
    · rw [wy_eq (by omega), wy_eq (by omega)]
      apply sg_congr
      intro k hk
      rw [cf_e1 hi, hb, Bool.or_true, Bool.and_true]
      by_cases h : cf e n S k = true
      · rw [if_pos h, if_pos h]
        have := lf_or hk (cf_no h)
        exact ih _ (or_lt hS hk) (by omega) (by rw [Nat.testBit_or, hb]; rfl)
      · rw [if_neg h, if_neg h]
/-- orders with i ahead of j, by the set that had gone when i went -/
def ow (e : Nat → Nat → Bool) (n i j S : Nat) : Nat := if (!S.testBit j && cf e n S i) = true then wy e n (S ||| 2 ^ i) else 0
theorem ow_sum {e : Nat → Nat → Bool} {n i j : Nat} (hi : i < n) (hj : j < n) (hij : i ≠ j) : sg (fun S => if (!S.testBit j && cf e n S i) = true then cm e n (2 ^ n - 1) S * wy e n (S ||| 2 ^ i) else 0) (2 ^ n - 1) = wy (e1 e i j) n 0 := by
  have hp := Nat.one_le_two_pow (n := n)
  have key : ∀ S, S < 2 ^ n - 1 → (if S.testBit i || S.testBit j then 0 else wy (e1 e i j) n S) = ow e n i j S + sg (fun k => if cf e n S k = true then (if (S ||| 2 ^ k).testBit i || (S ||| 2 ^ k).testBit j then 0 else wy (e1 e i j) n (S ||| 2 ^ k)) else 0) n := by
    intro S hS
    by_cases hb : (S.testBit i || S.testBit j) = true
    · rw [if_pos hb]
      have h1 : ow e n i j S = 0 := by
        unfold ow
        rw [if_neg]
        intro h
        simp only [Bool.and_eq_true, Bool.not_eq_true'] at h
        simp only [Bool.or_eq_true] at hb
        rcases hb with hb | hb
        · rw [cf_no h.2] at hb
          exact absurd hb (by decide)
        · rw [h.1] at hb
          exact absurd hb (by decide)
      rw [h1, sg_congr (g := fun _ => 0) (fun k hk => ?_), sg_const]
      · simp
      · by_cases h : cf e n S k = true
        · rw [if_pos h, if_pos]
          simp only [Nat.testBit_or, Bool.or_eq_true] at hb ⊢
          rcases hb with hb | hb
          · exact Or.inl (Or.inl hb)
          · exact Or.inr (Or.inl hb)
        · rw [if_neg h]
    · rw [if_neg hb, wy_eq hS]
      simp only [Bool.or_eq_true, not_or, Bool.not_eq_true] at hb
      obtain ⟨hbi, hbj⟩ := hb
      have := sg_pt (F := fun k => if cf (e1 e i j) n S k = true then wy (e1 e i j) n (S ||| 2 ^ k) else 0) (G := fun k => if cf e n S k = true then (if (S ||| 2 ^ k).testBit i || (S ||| 2 ^ k).testBit j then 0 else wy (e1 e i j) n (S ||| 2 ^ k)) else 0) (N := n) (s := i) hi (fun k hk hki => ?_)
      · have gi : (if cf e n S i = true then (if (S ||| 2 ^ i).testBit i || (S ||| 2 ^ i).testBit j then 0 else wy (e1 e i j) n (S ||| 2 ^ i)) else 0) = 0 := by
          by_cases h : cf e n S i = true
          · rw [if_pos h, if_pos (by simp [Nat.testBit_or, Nat.testBit_two_pow_self])]
          · rw [if_neg h]
        have fi : (if cf (e1 e i j) n S i = true then wy (e1 e i j) n (S ||| 2 ^ i) else 0) = ow e n i j S := by
          unfold ow
          rw [cf_e1 hi, hbj]
          have : (i == j) = false := beq_eq_false_iff_ne.mpr hij
          rw [this]
          simp only [Bool.not_false, Bool.true_or, Bool.and_true, Bool.true_and]
          by_cases h : cf e n S i = true
          · rw [if_pos h, if_pos h]
            exact wy_e1 hi (lf n (S ||| 2 ^ i)) _ (or_lt (by omega) hi) (Nat.le_refl _) (by simp [Nat.testBit_or, Nat.testBit_two_pow_self])
          · rw [if_neg h, if_neg h]
        simp only [gi, fi] at this
        omega
      · rw [cf_e1 hi, hbi, Bool.or_false]
        by_cases hkj : k = j
        · subst hkj
          simp only [beq_self_eq_true, Bool.not_true, Bool.and_false]
          by_cases h : cf e n S k = true
          · rw [if_neg Bool.false_ne_true, if_pos h, if_pos (by simp [Nat.testBit_or, Nat.testBit_two_pow_self])]
          · rw [if_neg Bool.false_ne_true, if_neg h]
        · have : (k == j) = false := beq_eq_false_iff_ne.mpr hkj
          rw [this, Bool.not_false, Bool.and_true]
          by_cases h : cf e n S k = true
          · rw [if_pos h, if_pos h, if_neg]
            simp [Nat.testBit_or, hbi, hbj, Nat.testBit_two_pow, hki, hkj]
          · rw [if_neg h, if_neg h]
  have D := cm_dual (e := e) (n := n) (f := ow e n i j) (g := fun S => if S.testBit i || S.testBit j then 0 else wy (e1 e i j) n S) key (2 ^ n - 1) (Nat.le_refl _)
  simp only [Nat.zero_testBit, Bool.or_self] at D
  rw [if_neg (by decide)] at D
  rw [← D]
  obtain ⟨m, hm⟩ : ∃ m, 2 ^ n = m + 1 := ⟨2 ^ n - 1, by omega⟩
  have hall : ((2 ^ n - 1).testBit i || (2 ^ n - 1).testBit j) = true := by
    rw [Nat.testBit_two_pow_sub_one]
    simp [hi]
  rw [hm] at hall ⊢
  simp only [Nat.add_sub_cancel] at hall ⊢
  simp only [sg, Nat.lt_irrefl, if_false, if_pos hall, Nat.mul_zero, Nat.add_zero]
  apply sg_congr
  intro S hS
  rw [if_pos hS]
  unfold ow
  by_cases h : (!S.testBit j && cf e n S i) = true
  · rw [if_pos h, if_pos h]
  · rw [if_neg h, if_neg h, Nat.mul_zero]
theorem e_G_countCome (σ : xS) (τ : xL) {n : Nat} (h7 : n ≤ 7) {e : Nat → Nat → Bool} (hG : Gr σ n e) : Rs m_G_countCome [.ref 31] σ τ none (fun σ' => Ag [35] σ σ' ∧ Ar σ' 35 128 (cm e n (2 ^ n - 1))) := by
  intro Q h
  have h128 := p2_7 h7
  have hp := Nat.one_le_two_pow (n := n)
  refine ev_go 100 [17] ?_
  refine e_J_fill σ τ 35 128 0 rfl (by decide) _ ?_
  refine ⟨128, rfl, q_in (i := 0) (by decide) (by decide), ?_⟩
  refine ev_lj (α := Value) (M := m_G_countCome) (pc := 17) (st := []) (g := x_g) (Q := Q) (τ := τ) (2 ^ n - 1) (fun s u => [.ref 31, .int (nI s), u]) (fun s σ' => Ag [35] σ σ' ∧ Ar σ' 35 128 (cm e n s)) (fun s hs u σ1 hI kk => ?_) (fun u σ1 hI => ?_) .null _ ⟨(Ag.refl.row (by decide)).row (by decide), fun S hS => ?_⟩
  · have hG1 := hG.ag hI.1 (by decide) (by decide)
    refine ev_go 100 [27] ?_
    refine br_f (by rw [hG1.1.2]; exact nI_ge hs (by omega)) ?_
    refine ev_lp (M := m_G_countCome) (pc := 27) (st := []) (g := x_g) (Q := Q) (τ := τ) n (fun i => [.ref 31, .int (nI s), .int (nI i)]) (fun i σ' => Ag [35] σ σ' ∧ Ar σ' 35 128 (cmi e n s (cm e n s) i)) (fun i hi σ2 hJ kk2 => ?_) (fun σ2 hJ => ?_) σ1 ⟨hI.1, hI.2⟩
    · obtain ⟨hg2, hJ⟩ := hJ
      have hG2 := hG.ag hg2 (by decide) (by decide)
      have r1 : σ2 35 (nI s).toNatClampNeg = nI (cm e n s s) := by
        rw [hJ.get (by omega) (by omega), cmi_s i s (Nat.le_refl s)]
      refine ev_go 100 [27] ?_
      refine br_f (by rw [hG2.1.1]; exact nI_ge hi (by omega)) ?_
      refine ⟨128, rfl, q_in (by omega) (by decide), ?_⟩
      rw [r1]
      by_cases hz : nI (cm e n s s) = 0
      · refine br_t hz ?_
        show Ev m_G_countCome 27 [.ref 31, .int (nI s), .int (nI i + 1)] [] x_g σ2 τ Q
        rw [nI_1]
        refine kk2 _ ⟨hg2, fun x hx => ?_⟩
        simp only [cmi]
        by_cases hc : cf e n s i = true
        · rw [if_pos hc]
          simp only [nup]
          by_cases ex : x = s ||| 2 ^ i
          · rw [if_pos ex, ← nI_add, hz, ex, hJ _ (by rw [← ex]; exact hx), Int32.add_zero]
          · rw [if_neg ex]
            exact hJ x hx
        · rw [if_neg hc]
          exact hJ x hx
      · refine br_f hz ?_
        refine e_G_canFollow σ2 τ h7 hG2.2 (S := s) (by omega) hi _ ?_
        by_cases hc : cf e n s i = true
        · refine br_f (xb1 hc) ?_
          have h1 := or_lt (show s < 2 ^ n by omega) hi
          refine ⟨128, rfl, by rw [q_shl1 (by omega), q_or]; exact q_in (by omega) (by decide), ?_⟩
          refine ⟨128, rfl, q_in (by omega) (by decide), ?_⟩
          refine ⟨128, rfl, by rw [q_shl1 (by omega), q_or]; exact q_in (by omega) (by decide), ?_⟩
          rw [r1, q_shl1 (by omega), q_or, hJ.get (by omega) (by omega), nI_add, cl7 (by omega)]
          show Ev m_G_countCome 27 [.ref 31, .int (nI s), .int (nI i + 1)] [] x_g _ τ Q
          rw [nI_1]
          refine kk2 _ ⟨hg2.row (by decide), ?_⟩
          simp only [cmi, if_pos hc]
          exact hJ.up
        · refine br_t (xb0 hc) ?_
          show Ev m_G_countCome 27 [.ref 31, .int (nI s), .int (nI i + 1)] [] x_g _ τ Q
          rw [nI_1]
          refine kk2 _ ⟨hg2, ?_⟩
          simp only [cmi, if_neg hc]
          exact hJ
    · refine ev_go 100 [17] ?_
      refine br_t (by rw [hJ.1 31 (by decide), hG.1.1]; exact nI_le (Nat.le_refl _) (by omega)) ?_
      show Ev m_G_countCome 17 [.ref 31, .int (nI s + 1), .int (nI n)] [] x_g _ τ Q
      rw [nI_1]
      exact kk _ _ hJ
  · refine ev_go 100 [] ?_
    refine br_t (by rw [hI.1 31 (by decide), hG.1.2]; exact nI_le (Nat.le_refl _) (by omega)) ?_
    exact h _ hI
  · rw [x_row_eq]
    simp only [cm, upd]
    by_cases ez : S = 0
    · subst ez
      rfl
    · rw [if_neg (show ¬ S = Int32.toNatClampNeg 0 from ez), if_neg ez, x_row_eq, if_pos hS]
      rfl
theorem e_G_ordersWith (σ : xS) (τ : xL) {n : Nat} (h7 : n ≤ 7) {e : Nat → Nat → Bool} (hG : Gr σ n e) (hW : Ar σ 34 (2 ^ n) (wy e n)) (hA : Ar σ 35 128 (cm e n (2 ^ n - 1))) {i j : Nat} (hi : i < n) (hj : j < n) (hij : i ≠ j) : Rn m_G_ordersWith [.ref 31, .int (nI i), .int (nI j)] σ τ (some (.int (nI (wy (e1 e i j) n 0)))) σ τ := by
  intro Q h
  have h128 := p2_7 h7
  have hp := Nat.one_le_two_pow (n := n)
  rw [← ow_sum hi hj hij] at h
  refine ev_go 100 [5] ?_
  refine ev_iter (M := m_G_ordersWith) (pc := 5) (st := []) (g := x_g) (Q := Q) (2 ^ n - 1) (fun S => ([.ref 31, .int (nI i), .int (nI j), .int (nI (sg (fun S => if (!S.testBit j && cf e n S i) = true then cm e n (2 ^ n - 1) S * wy e n (S ||| 2 ^ i) else 0) S)), .int (nI S)], σ, τ)) (fun S hS kk => ?_) ?_
  · dsimp only at kk ⊢
    have no : ¬ (!S.testBit j && cf e n S i) = true → Ev m_G_ordersWith 5 [.ref 31, .int (nI i), .int (nI j), .int (nI (sg (fun S => if (!S.testBit j && cf e n S i) = true then cm e n (2 ^ n - 1) S * wy e n (S ||| 2 ^ i) else 0) S)), .int (nI S + 1)] [] x_g σ τ Q := by
      intro hc
      rw [nI_1]
      simp only [sg, if_neg hc, Nat.add_zero] at kk
      exact kk
    refine ev_go 100 [5] ?_
    refine br_f (by rw [hG.1.2]; exact nI_ge hS (by omega)) ?_
    refine e_S_has σ τ (by omega) (by omega) _ ?_
    by_cases t : S.testBit j = true
    · refine bn_t (xb1 t) ?_
      exact no (by simp [t])
    · refine bn_f (xb0 t) ?_
      refine e_G_canFollow σ τ h7 hG.2 (S := S) (by omega) hi _ ?_
      by_cases hc : cf e n S i = true
      · refine br_f (xb1 hc) ?_
        have h1 := or_lt (show S < 2 ^ n by omega) hi
        have hb : (!S.testBit j && cf e n S i) = true := by simp [t, hc]
        refine ⟨128, rfl, q_in (by omega) (by decide), ?_⟩
        refine ⟨128, rfl, by rw [q_shl1 (by omega), q_or]; exact q_in (by omega) (by decide), ?_⟩
        show Ev m_G_ordersWith 5 [.ref 31, .int (nI i), .int (nI j), .int (nI (sg (fun S => if (!S.testBit j && cf e n S i) = true then cm e n (2 ^ n - 1) S * wy e n (S ||| 2 ^ i) else 0) S) + σ 35 (nI S).toNatClampNeg * σ 34 (nI S ||| ((1 : Int32) <<< (nI i &&& 31))).toNatClampNeg), .int (nI S + 1)] [] x_g σ τ Q
        rw [hA.get (by omega) (by omega), q_shl1 (by omega), q_or, hW.get (by omega) (by omega), pk_mul, nI_add, nI_1]
        simp only [sg, if_pos hb] at kk
        exact kk
      · refine br_t (xb0 hc) ?_
        exact no (by simp [hc])
  · dsimp only
    refine ev_go 100 [5] ?_
    refine br_t (by rw [hG.1.2]; exact nI_le (Nat.le_refl _) (by omega)) ?_
    exact h
theorem Mr.e1 {σ : xS} {n : Nat} {e : Nat → Nat → Bool} {i j : Nat} (h : Mr σ n e) (hi : i < n) : Mr (x_row σ 85 (upd (σ 85) j (nI (bs (e j) n ||| 2 ^ i)))) n (e1 e i j) := Ar.orb (e := e) h hi
theorem e_M_countWith (σ : xS) (τ : xL) {n : Nat} (h7 : n ≤ 7) (hn : σ 67 10 = nI n) {e : Nat → Nat → Bool} (hB : Mr σ n e) {i j : Nat} (hi : i < n) (hj : j < n) : Rs m_M_countWith [.ref 67, .int (nI i), .int (nI j)] σ τ (some (.int (nI (wy (e1 e i j) n 0)))) (fun σ' => Ag [85, 87] σ σ' ∧ Mr σ' n e) := by
  intro Q h
  have hB' : Ar σ 85 7 (fun j => bs (e j) n) := hB
  refine ev_go 100 [] ?_
  refine ⟨7, rfl, q_in (by omega) (by decide), ?_⟩
  rw [hB'.get (by omega) (by omega)]
  refine ⟨7, rfl, q_in (by omega) (by decide), ?_⟩
  refine ⟨7, rfl, q_in (by omega) (by decide), ?_⟩
  rw [hB'.get (by omega) (by omega), q_shl1 (by omega), q_or, cl7 (by omega)]
  refine e_M_countOrders _ τ h7 (by rw [x_row_ne (by decide)]; exact hn) (hB.e1 hi) _ (fun σ2 h2 => ?_)
  refine ⟨7, rfl, q_in (by omega) (by decide), ?_⟩
  rw [cl7 (by omega)]
  refine h _ ⟨((Ag.refl.row (by decide)).trans (h2.1.mono (by decide))).row (by decide), fun x hx => ?_⟩
  rw [x_row_eq]
  simp only [upd]
  by_cases ex : x = j
  · rw [if_pos ex, ex]
  · rw [if_neg ex, h2.1 85 (by decide), x_row_eq]
    simp only [upd, if_neg ex]
    exact hB x hx
theorem pair_odds (i j : Int32) : Pair m_S_odds m_M_odds [.int i, .int j] := by
  intro σ τ hR
  obtain ⟨P, hC, hM, hV, hK⟩ := hR.2.2.1
  have h7 := hV.1
  have hp := Nat.one_le_two_pow (n := pn P)
  refine ev_go 100 [] ?_
  refine e_P_areTwo σ τ i j _ ?_
  rw [hC.1]
  by_cases h2 : ((¬ i < 0 ∧ ¬ nI (pn P) ≤ i) ∧ (¬ j < 0 ∧ ¬ nI (pn P) ≤ j) ∧ ¬ i = j)
  · refine bn_t (xb1 h2) ?_
    refine e_S_closesToRing σ τ hC hV _ (fun σ1 h1 => ?_)
    have hM1 := hM.ag h1.1 (by decide)
    by_cases hr : rg (edP P) (pn P) = true
    · refine br_f (xb1 hr) ?_
      refine e_S_refuse σ1 τ 4 in4 _ ?_
      refine ⟨rfl, ?_⟩
      have hM2 := hM1.ag (Ag.cref (f := 4)) (by decide)
      refine ev_go 100 [] ?_
      refine e_M_arePair _ τ hM2 hV _ _ _ ?_
      refine bn_t (xb1 h2) ?_
      refine e_M_isRingNow _ τ hM2 hV _ (fun σ2 h3 => ?_)
      refine br_f (xb1 hr) ?_
      refine e_M_finds σ2 τ 4 in4 _ ?_
      exact ⟨rfl, rfl, ⟨_, rfl⟩, hR.fnd h1.1 (by decide) (f := 4) (by decide) h3.1 (by decide)⟩
    · refine br_t (xb0 hr) ?_
      have hr' : rg (edP P) (pn P) = false := by simpa using hr
      obtain ⟨a, b, ha, hb, hab, rfl, rfl⟩ := (q_two hV.1 i j).mp h2
      have b0 := wy_b31 (e := edP P) (n := pn P) (S := 0) h7 (by omega)
      have b1 := wy_b31 (e := e1 (edP P) a b) (n := pn P) (S := 0) h7 (by omega)
      have pos := wy_pos hr' _ 0 (by omega) (Nat.le_refl _)
      obtain ⟨K, k1, k2, k3⟩ := es_end (p := (wy (e1 (edP P) a b) (pn P) 0, wy (edP P) (pn P) 0)) b0
      refine e_G_countOnward σ1 τ h7 h1.2.1 _ (fun σ2 h3 => ?_)
      have hG2 := h1.2.1.ag h3.1 (by decide) (by decide)
      refine e_G_countCome σ2 τ h7 hG2 _ (fun σ3 h4 => ?_)
      have hG3 := hG2.ag h4.1 (by decide) (by decide)
      have hW3 := h3.2.ag h4.1 (by decide)
      refine e_G_ordersWith σ3 τ h7 hG3 hW3 h4.2 ha hb hab _ ?_
      refine ⟨128, rfl, q_in (i := 0) (by decide) (by decide), ?_⟩
      refine e_S_tellFraction σ3 τ b1 b0 pos k1 k2 k3 (nI_l b1) (by rw [show σ3 34 (0 : Int32).toNatClampNeg = nI (wy (edP P) (pn P) 0) from hW3 0 (by omega), nI_l b0]) _ ?_
      refine ⟨rfl, ?_⟩
      have hM3 := (hM1.ag h3.1 (by decide)).ag h4.1 (by decide)
      refine ev_go 100 [] ?_
      refine e_M_arePair _ _ hM3 hV _ _ _ ?_
      refine bn_t (xb1 h2) ?_
      refine e_M_isRingNow _ _ hM3 hV _ (fun σ4 h5 => ?_)
      refine br_t (xb0 hr) ?_
      have hM4 := hM3.ag h5.1 (by decide)
      refine e_M_countWith σ4 _ h7 hM4.1 h5.2.1 ha hb _ (fun σ5 h6 => ?_)
      have hM5 := hM4.ag h6.1 (by decide)
      refine e_M_countOrders σ5 _ h7 hM5.1 h6.2 _ (fun σ6 h8 => ?_)
      refine e_M_parts σ6 _ b1 b0 pos k2 k3 (nI_l b1) (nI_l b0) _ ?_
      exact ⟨rfl, rfl, ⟨_, rfl⟩, ((((((hR.ag h1.1 (by decide)).ag h3.1 (by decide)).ag h4.1 (by decide)).ag h5.1 (by decide)).ag h6.1 (by decide)).ag h8.1 (by decide)).frac _ _⟩
  · refine bn_f (xb0 h2) ?_
    refine ⟨rfl, ?_⟩
    refine ev_go 100 [] ?_
    refine e_M_arePair σ τ hM hV _ _ _ ?_
    refine bn_f (xb0 h2) ?_
    exact ⟨rfl, rfl, ⟨_, rfl⟩, hR⟩
