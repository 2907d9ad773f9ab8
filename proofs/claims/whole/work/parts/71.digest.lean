/-! HOW MANY, THE DIGEST -/
def kpt (σ : xS) (k : Nat) : Bool := decide (¬ σ (49 + 6 * k) 0 ≤ 0)
def rth (σ : xS) (r : Nat) : Bool := decide (¬ σ 9 r < 0)
def tth (σ : xS) (r : Nat) : Bool := decide (¬ σ 16 r < 0)
def kpM (σ : xS) (k : Nat) : Bool := decide (¬ σ 84 (42 * k) = -9)
def rtM (σ : xS) (r : Nat) : Bool := decide (¬ σ 69 r = -9)
def ttM (σ : xS) (r : Nat) : Bool := decide (¬ σ 72 r = -9)
theorem rth_M {σ : xS} (h : RelR σ) {r : Nat} (hr : r < 6) : rth σ r = rtM σ r := by
  unfold rth rtM
  rcases h.size hr with ⟨a, b⟩ | ⟨n, hn, a, b⟩
  · rw [a, b]; decide
  · rw [a, b, decide_eq_true (nI_pos (by omega)), decide_eq_true (nI_ne9 (by omega))]
theorem tth_M {σ : xS} (h : RelT σ) {r : Nat} (hr : r < 4) : tth σ r = ttM σ r := by
  unfold tth ttM
  rcases h.size hr with ⟨a, b⟩ | ⟨n, hn, a, b⟩
  · rw [a, b]; decide
  · rw [a, b, decide_eq_true (nI_pos (by omega)), decide_eq_true (nI_ne9 (by omega))]
theorem kpt_M {σ : xS} {P : xP} (h : RelK σ P) {k : Nat} (hk : k < 3) : kpt σ k = kpM σ k := by
  unfold kpt kpM
  rcases h k hk with ⟨a, b⟩ | ⟨P', a, hV, c, d, -, b, -⟩
  · rw [a, b]; decide
  · have := hV.1
    have := hV.2.1
    rw [a.1, b, decide_eq_true (nI_nle (by omega) (by omega)), decide_eq_true (nI_ne9 (by omega))]
def hmC (σ : xS) (P : xP) : Nat → Int32
  | 0 => nI (pn P)
  | 1 => nI (pc P)
  | 2 => nI (cnt (tl P) (pc P))
  | 3 => nI (cnt (knd P 1) (pn P))
  | 4 => nI (cnt (knd P 2) (pn P))
  | 5 => nI (cnt (kpt σ) 3)
  | 6 => nI (cnt (rth σ) 6)
  | _ => nI (cnt (tth σ) 4)
theorem e_S_keptPasses (σ : xS) (τ : xL) : Rn m_S_keptPasses [.ref 0] σ τ (some (.int (nI (cnt (kpt σ) 3)))) σ τ := by
  intro Q h
  refine ev_go 100 [4] ?_
  refine ev_iter (M := m_S_keptPasses) (pc := 4) (st := []) (g := x_g) (Q := Q) 3 (fun i => ([.ref 0, .int (nI (cnt (kpt σ) i)), .int (nI i)], σ, τ)) (fun i hi kk => ?_) ?_
  · dsimp only at kk ⊢
    refine ev_go 100 [4] ?_
    refine br_f (nI_ge (b := 3) hi (by decide)) ?_
    refine e_S_isKept σ τ hi _ ?_
    by_cases ht : ¬ σ (49 + 6 * i) 0 ≤ 0
    · refine br_f (xb1 ht) ?_
      show Ev m_S_keptPasses 4 [.ref 0, .int (nI (cnt (kpt σ) i) + 1), .int (nI i + 1)] [] x_g σ τ Q
      rw [nI_1, nI_1, show cnt (kpt σ) i + 1 = cnt (kpt σ) (i + 1) by simp only [cnt]; rw [if_pos (show kpt σ i = true from decide_eq_true ht)]]
      exact kk
    · refine br_t (xb0 ht) ?_
      show Ev m_S_keptPasses 4 [.ref 0, .int (nI (cnt (kpt σ) i)), .int (nI i + 1)] [] x_g σ τ Q
      rw [nI_1, show cnt (kpt σ) i = cnt (kpt σ) (i + 1) by simp only [cnt]; rw [if_neg (by rw [show kpt σ i = false from decide_eq_false ht]; decide)]; rfl]
      exact kk
  · dsimp only
    refine ev_go 100 [4] ?_
    refine br_t (nI_le (a := 3) (b := 3) (Nat.le_refl _) (by decide)) ?_
    exact h
theorem e_H_there1 (σ : xS) (τ : xL) : Rn m_H_there [.ref 1] σ τ (some (.int (nI (cnt (rth σ) 6)))) σ τ := by
  intro Q h
  refine ev_go 100 [4] ?_
  refine ev_iter (M := m_H_there) (pc := 4) (st := []) (g := x_g) (Q := Q) 6 (fun i => ([.ref 1, .int (nI (cnt (rth σ) i)), .int (nI i)], σ, τ)) (fun i hi kk => ?_) ?_
  · dsimp only at kk ⊢
    refine ev_go 100 [4] ?_
    refine ⟨16, 6, rfl, Or.inl rfl, ?_⟩
    refine br_f (nI_ge (b := 6) hi (by decide)) ?_
    refine e_H_isThere1 σ τ _ (q_in hi (by decide)) _ ?_
    rw [cl7 (by omega)]
    by_cases ht : ¬ σ 9 i < 0
    · refine br_f (xb1 ht) ?_
      show Ev m_H_there 4 [.ref 1, .int (nI (cnt (rth σ) i) + 1), .int (nI i + 1)] [] x_g σ τ Q
      rw [nI_1, nI_1, show cnt (rth σ) i + 1 = cnt (rth σ) (i + 1) by simp only [cnt]; rw [if_pos (show rth σ i = true from decide_eq_true ht)]]
      exact kk
    · refine br_t (xb0 ht) ?_
      show Ev m_H_there 4 [.ref 1, .int (nI (cnt (rth σ) i)), .int (nI i + 1)] [] x_g σ τ Q
      rw [nI_1, show cnt (rth σ) i = cnt (rth σ) (i + 1) by simp only [cnt]; rw [if_neg (by rw [show rth σ i = false from decide_eq_false ht]; decide)]; rfl]
      exact kk
  · dsimp only
    refine ev_go 100 [4] ?_
    refine ⟨16, 6, rfl, Or.inl rfl, ?_⟩
    refine br_t (nI_le (a := 6) (b := 6) (Nat.le_refl _) (by decide)) ?_
    exact h
theorem e_H_there10 (σ : xS) (τ : xL) : Rn m_H_there [.ref 10] σ τ (some (.int (nI (cnt (tth σ) 4)))) σ τ := by
  intro Q h
  refine ev_go 100 [4] ?_
  refine ev_iter (M := m_H_there) (pc := 4) (st := []) (g := x_g) (Q := Q) 4 (fun i => ([.ref 10, .int (nI (cnt (tth σ) i)), .int (nI i)], σ, τ)) (fun i hi kk => ?_) ?_
  · dsimp only at kk ⊢
    refine ev_go 100 [4] ?_
    refine ⟨16, 4, rfl, Or.inl rfl, ?_⟩
    refine br_f (nI_ge (b := 4) hi (by decide)) ?_
    refine e_H_isThere10 σ τ _ (q_in hi (by decide)) _ ?_
    rw [cl7 (by omega)]
    by_cases ht : ¬ σ 16 i < 0
    · refine br_f (xb1 ht) ?_
      show Ev m_H_there 4 [.ref 10, .int (nI (cnt (tth σ) i) + 1), .int (nI i + 1)] [] x_g σ τ Q
      rw [nI_1, nI_1, show cnt (tth σ) i + 1 = cnt (tth σ) (i + 1) by simp only [cnt]; rw [if_pos (show tth σ i = true from decide_eq_true ht)]]
      exact kk
    · refine br_t (xb0 ht) ?_
      show Ev m_H_there 4 [.ref 10, .int (nI (cnt (tth σ) i)), .int (nI i + 1)] [] x_g σ τ Q
      rw [nI_1, show cnt (tth σ) i = cnt (tth σ) (i + 1) by simp only [cnt]; rw [if_neg (by rw [show tth σ i = false from decide_eq_false ht]; decide)]; rfl]
      exact kk
  · dsimp only
    refine ev_go 100 [4] ?_
    refine ⟨16, 4, rfl, Or.inl rfl, ?_⟩
    refine br_t (nI_le (a := 4) (b := 4) (Nat.le_refl _) (by decide)) ?_
    exact h
theorem k8 {o : Nat} (h : o ≤ 7) : o = 0 ∨ o = 1 ∨ o = 2 ∨ o = 3 ∨ o = 4 ∨ o = 5 ∨ o = 6 ∨ o = 7 := by omega
theorem e_S_howMany (σ : xS) (τ : xL) {P : xP} (hP : PC σ 17 P) (hV : PV P) {w : Nat} (hw : w ≤ 7) : Rn m_S_howMany [.ref 0, .int (nI w)] σ τ (some (.int (hmC σ P w))) σ τ := by
  intro Q h
  rcases k8 hw with rfl | rfl | rfl | rfl | rfl | rfl | rfl | rfl
  · refine ev_go 100 [] ?_
    refine br_t (by decide) ?_
    show Q (some (.int (σ 17 0))) x_g σ τ
    rw [hP.1]
    exact h
  · refine ev_go 100 [] ?_
    refine br_f (by decide) ?_
    refine br_t (by decide) ?_
    show Q (some (.int (σ 17 1))) x_g σ τ
    rw [hP.2.1]
    exact h
  · refine ev_go 100 [] ?_
    refine br_f (by decide) ?_
    refine br_f (by decide) ?_
    refine br_t (by decide) ?_
    exact e_P_telling σ τ hP hV _ h
  · refine ev_go 100 [] ?_
    refine br_f (by decide) ?_
    refine br_f (by decide) ?_
    refine br_f (by decide) ?_
    refine br_t (by decide) ?_
    exact e_P_ofKind σ τ hP hV (w := 1) (by decide) _ h
  · refine ev_go 100 [] ?_
    refine br_f (by decide) ?_
    refine br_f (by decide) ?_
    refine br_f (by decide) ?_
    refine br_f (by decide) ?_
    refine br_t (by decide) ?_
    exact e_P_ofKind σ τ hP hV (w := 2) (by decide) _ h
  · refine ev_go 100 [] ?_
    refine br_f (by decide) ?_
    refine br_f (by decide) ?_
    refine br_f (by decide) ?_
    refine br_f (by decide) ?_
    refine br_f (by decide) ?_
    refine br_t (by decide) ?_
    exact e_S_keptPasses σ τ _ h
  · refine ev_go 100 [] ?_
    refine br_f (by decide) ?_
    refine br_f (by decide) ?_
    refine br_f (by decide) ?_
    refine br_f (by decide) ?_
    refine br_f (by decide) ?_
    refine br_f (by decide) ?_
    refine br_t (by decide) ?_
    exact e_H_there1 σ τ _ h
  · refine ev_go 100 [] ?_
    refine br_f (by decide) ?_
    refine br_f (by decide) ?_
    refine br_f (by decide) ?_
    refine br_f (by decide) ?_
    refine br_f (by decide) ?_
    refine br_f (by decide) ?_
    refine br_f (by decide) ?_
    exact e_H_there10 σ τ _ h
/-- the model's three counts -/
def c6 (σ : xS) (w : Nat) (r : Nat) : Bool := decide (w = 6) && rtM σ r
def c7 (σ : xS) (w : Nat) (r : Nat) : Bool := decide (w = 7) && (decide (r < 4) && ttM σ r)
def c5 (σ : xS) (w : Nat) (r : Nat) : Bool := decide (w = 5) && (decide (r < 3) && kpM σ r)
theorem cnt_y {f : Nat → Bool} {i : Nat} (h : f i = true) : cnt f (i + 1) = cnt f i + 1 := by simp [cnt, h]
theorem cnt_n {f : Nat → Bool} {i : Nat} (h : f i = false) : cnt f (i + 1) = cnt f i := by simp [cnt, h]
theorem e_M_counted_n (σ : xS) (τ : xL) {w : Nat} (hw : w ≤ 7) {Q : xQ} (kend : Ev m_M_counted 103 [.ref 67, .int (nI w), .int (nI (cnt (c6 σ w) 6 + cnt (c7 σ w) 6 + cnt (c5 σ w) 6)), .int (nI 6)] [] x_g σ τ Q) : Ev m_M_counted 0 (x_loc [.ref 67, .int (nI w)] m_M_counted.2.2.1) [] x_g σ τ Q := by
  refine ev_go 100 [4] ?_
  refine ev_iter (M := m_M_counted) (pc := 4) (st := []) (g := x_g) (Q := Q) 6 (fun r => ([.ref 67, .int (nI w), .int (nI (cnt (c6 σ w) r + cnt (c7 σ w) r + cnt (c5 σ w) r)), .int (nI r)], σ, τ)) (fun r hr kk => ?_) ?_
  · dsimp only at kk ⊢
    have third : Ev m_M_counted 65 [.ref 67, .int (nI w), .int (nI (cnt (c6 σ w) (r + 1) + cnt (c7 σ w) (r + 1) + cnt (c5 σ w) r)), .int (nI r)] [] x_g σ τ Q := by
      have no : c5 σ w r = false → Ev m_M_counted 4 [.ref 67, .int (nI w), .int (nI (cnt (c6 σ w) (r + 1) + cnt (c7 σ w) (r + 1) + cnt (c5 σ w) r) + nI 0), .int (nI r + 1)] [] x_g σ τ Q := fun z => by
        rw [nI_1, nI_add, Nat.add_zero, ← cnt_n z]
        exact kk
      refine ev_go 100 [4] ?_
      by_cases h5 : w = 5
      · refine bn_f (by rw [h5]; rfl) ?_
        by_cases h3 : r < 3
        · refine br_f (nI_ge (b := 3) h3 (by decide)) ?_
          refine ⟨126, rfl, by rw [e42]; exact q_in (by omega) (by decide), ?_⟩
          rw [e42, cl7 (by omega)]
          by_cases hz : σ 84 (42 * r) = -9
          · refine br_t hz ?_
            exact no (by simp [c5, kpM, hz])
          · refine br_f hz ?_
            show Ev m_M_counted 4 [.ref 67, .int (nI w), .int (nI (cnt (c6 σ w) (r + 1) + cnt (c7 σ w) (r + 1) + cnt (c5 σ w) r) + 1), .int (nI r + 1)] [] x_g σ τ Q
            rw [nI_1, nI_1, Nat.add_assoc, ← cnt_y (f := c5 σ w) (by simp [c5, kpM, hz, h5, h3])]
            exact kk
        · refine br_t (nI_le (a := 3) (by omega) (by omega)) ?_
          exact no (by simp [c5, h3])
      · refine bn_t (fun z => h5 ((q_eq (b := 5) (by omega) (by decide)).mp z)) ?_
        exact no (by simp [c5, h5])
    have second : Ev m_M_counted 35 [.ref 67, .int (nI w), .int (nI (cnt (c6 σ w) (r + 1) + cnt (c7 σ w) r + cnt (c5 σ w) r)), .int (nI r)] [] x_g σ τ Q := by
      have no : c7 σ w r = false → Ev m_M_counted 65 [.ref 67, .int (nI w), .int (nI (cnt (c6 σ w) (r + 1) + cnt (c7 σ w) r + cnt (c5 σ w) r) + nI 0), .int (nI r)] [] x_g σ τ Q := fun z => by
        rw [nI_add, Nat.add_zero, ← cnt_n z]
        exact third
      refine ev_go 100 [65] ?_
      by_cases h5 : w = 7
      · refine bn_f (by rw [h5]; rfl) ?_
        by_cases h3 : r < 4
        · refine br_f (nI_ge (b := 4) h3 (by decide)) ?_
          refine ⟨4, rfl, q_in (by omega) (by decide), ?_⟩
          rw [cl7 (by omega)]
          by_cases hz : σ 72 r = -9
          · refine br_t hz ?_
            exact no (by simp [c7, ttM, hz])
          · refine br_f hz ?_
            show Ev m_M_counted 65 [.ref 67, .int (nI w), .int (nI (cnt (c6 σ w) (r + 1) + cnt (c7 σ w) r + cnt (c5 σ w) r) + 1), .int (nI r)] [] x_g σ τ Q
            rw [nI_1, show cnt (c6 σ w) (r + 1) + cnt (c7 σ w) r + cnt (c5 σ w) r + 1 = cnt (c6 σ w) (r + 1) + (cnt (c7 σ w) r + 1) + cnt (c5 σ w) r by omega, ← cnt_y (f := c7 σ w) (by simp [c7, ttM, hz, h5, h3])]
            exact third
        · refine br_t (nI_le (a := 4) (by omega) (by omega)) ?_
          exact no (by simp [c7, h3])
      · refine bn_t (fun z => h5 ((q_eq (b := 7) (by omega) (by decide)).mp z)) ?_
        exact no (by simp [c7, h5])
    have no : c6 σ w r = false → Ev m_M_counted 35 [.ref 67, .int (nI w), .int (nI (cnt (c6 σ w) r + cnt (c7 σ w) r + cnt (c5 σ w) r) + nI 0), .int (nI r)] [] x_g σ τ Q := fun z => by
      rw [nI_add, Nat.add_zero, ← cnt_n z]
      exact second
    refine ev_go 100 [35] ?_
    refine br_f (nI_ge (b := 6) hr (by decide)) ?_
    by_cases h5 : w = 6
    · refine bn_f (by rw [h5]; rfl) ?_
      refine ⟨6, rfl, q_in (by omega) (by decide), ?_⟩
      rw [cl7 (by omega)]
      by_cases hz : σ 69 r = -9
      · refine br_t hz ?_
        exact no (by simp [c6, rtM, hz])
      · refine br_f hz ?_
        show Ev m_M_counted 35 [.ref 67, .int (nI w), .int (nI (cnt (c6 σ w) r + cnt (c7 σ w) r + cnt (c5 σ w) r) + 1), .int (nI r)] [] x_g σ τ Q
        rw [nI_1, show cnt (c6 σ w) r + cnt (c7 σ w) r + cnt (c5 σ w) r + 1 = (cnt (c6 σ w) r + 1) + cnt (c7 σ w) r + cnt (c5 σ w) r by omega, ← cnt_y (f := c6 σ w) (by simp [c6, rtM, hz, h5])]
        exact second
    · refine bn_t (fun z => h5 ((q_eq (b := 6) (by omega) (by decide)).mp z)) ?_
      exact no (by simp [c6, h5])
  · dsimp only
    refine ev_go 100 [103] ?_
    refine br_t (nI_le (a := 6) (b := 6) (Nat.le_refl _) (by decide)) ?_
    exact kend
theorem e_M_counted (σ : xS) (τ : xL) {P : xP} (hP : PM σ P) (hV : PV P) (hR : RelR σ) (hT : RelT σ) (hK : RelK σ P) {w : Nat} (hw : w ≤ 7) : Rn m_M_counted [.ref 67, .int (nI w)] σ τ (some (.int (hmC σ P w))) σ τ := by
  intro Q h
  have h7 := hV.1
  have h16 := hV.2.1
  refine e_M_counted_n σ τ hw ?_
  rcases k8 hw with rfl | rfl | rfl | rfl | rfl | rfl | rfl | rfl
  · refine ev_go 100 [] ?_
    refine bn_f (by decide) ?_
    show Q (some (.int (σ 67 10))) x_g σ τ
    rw [hP.1]
    exact h
  · refine ev_go 100 [] ?_
    refine bn_t (by decide) ?_
    refine bn_f (by decide) ?_
    show Q (some (.int (σ 67 14))) x_g σ τ
    rw [hP.2.1]
    exact h
  · refine ev_go 100 [] ?_
    refine bn_t (by decide) ?_
    refine bn_t (by decide) ?_
    refine bn_f (by decide) ?_
    refine e_M_tellingBits σ τ hP hV _ ?_
    refine e_M_bits σ τ (Nat.lt_of_lt_of_le (bs_lt _ _) (Nat.pow_le_pow_right (by decide) (by omega))) _ ?_
    rw [pp_bs _ (by omega)]
    exact h
  · refine ev_go 100 [] ?_
    refine bn_t (by decide) ?_
    refine bn_t (by decide) ?_
    refine bn_t (by decide) ?_
    refine bn_f (by decide) ?_
    refine e_M_allOf σ τ hP hV (w := 1) (by decide) (by decide) _ ?_
    refine e_M_bits σ τ (b31 h7) _ ?_
    rw [pp_bs _ (by omega)]
    exact h
  · refine ev_go 100 [] ?_
    refine bn_t (by decide) ?_
    refine bn_t (by decide) ?_
    refine bn_t (by decide) ?_
    refine bn_t (by decide) ?_
    refine bn_f (by decide) ?_
    refine e_M_allOf σ τ hP hV (w := 2) (by decide) (by decide) _ ?_
    refine e_M_bits σ τ (b31 h7) _ ?_
    rw [pp_bs _ (by omega)]
    exact h
  · rw [show cnt (c6 σ 5) 6 + cnt (c7 σ 5) 6 + cnt (c5 σ 5) 6 = cnt (kpt σ) 3 from by
      rw [cnt_zero (f := c6 σ 5) 6 (fun i _ => by simp [c6]), cnt_zero (f := c7 σ 5) 6 (fun i _ => by simp [c7]), Nat.zero_add]
      refine (cnt_more (f := c5 σ 5) (n := 3) 3 (fun i hi => by simp [c5]; omega)).trans (cnt_congr 3 (fun i hi => ?_))
      rw [kpt_M hK hi]
      simp [c5, hi]]
    refine ev_go 100 [] ?_
    refine bn_t (by decide) ?_
    refine bn_t (by decide) ?_
    refine bn_t (by decide) ?_
    refine bn_t (by decide) ?_
    refine bn_t (by decide) ?_
    exact h
  · rw [show cnt (c6 σ 6) 6 + cnt (c7 σ 6) 6 + cnt (c5 σ 6) 6 = cnt (rth σ) 6 from by
      rw [cnt_zero (f := c5 σ 6) 6 (fun i _ => by simp [c5]), cnt_zero (f := c7 σ 6) 6 (fun i _ => by simp [c7]), Nat.add_zero]
      refine cnt_congr 6 (fun i hi => ?_)
      rw [rth_M hR hi]
      simp [c6]]
    refine ev_go 100 [] ?_
    refine bn_t (by decide) ?_
    refine bn_t (by decide) ?_
    refine bn_t (by decide) ?_
    refine bn_t (by decide) ?_
    refine bn_t (by decide) ?_
    exact h
  · rw [show cnt (c6 σ 7) 6 + cnt (c7 σ 7) 6 + cnt (c5 σ 7) 6 = cnt (tth σ) 4 from by
      rw [cnt_zero (f := c6 σ 7) 6 (fun i _ => by simp [c6]), cnt_zero (f := c5 σ 7) 6 (fun i _ => by simp [c5]), Nat.zero_add, Nat.add_zero]
      refine (cnt_more (f := c7 σ 7) (n := 4) 2 (fun i hi => by simp [c7]; omega)).trans (cnt_congr 4 (fun i hi => ?_))
      rw [tth_M hT hi]
      simp [c7, hi]]
    refine ev_go 100 [] ?_
    refine bn_t (by decide) ?_
    refine bn_t (by decide) ?_
    refine bn_t (by decide) ?_
    refine bn_t (by decide) ?_
    refine bn_t (by decide) ?_
    exact h
theorem pair_count (v : Int32) : Pair m_S_count m_M_count [.int v] := by
  intro σ τ hR
  obtain ⟨P, hC, hM, hV, hK⟩ := hR.2.2.1
  refine ev_go 100 [] ?_
  have bad : (v < 0 ∨ 7 < v) → Ev m_M_count 0 (x_loc [.ref 67, .int v] m_M_count.2.2.1) [] x_g σ τ (fun r2 g2 σ2 τ2 => g2 = x_g ∧ some (Value.int (-1)) = r2 ∧ (∃ v, some (Value.int (-1)) = some v) ∧ Rel σ2 τ2) := by
    intro h0
    refine ev_go 100 [] ?_
    refine e_M_in σ τ v 0 7 _ ?_
    refine br_t (xb0 (fun q => h0.elim q.1 q.2)) ?_
    exact ⟨rfl, rfl, ⟨_, rfl⟩, hR⟩
  refine And.intro (fun h1 => ⟨rfl, bad (Or.inl h1)⟩) (fun h1 => And.intro (fun h2 => ?_) (fun h2 => ⟨rfl, bad (Or.inr (Int32.not_le.mp h2))⟩))
  obtain ⟨w, hw, rfl⟩ := nI_of2 (M := 7) (n := 7) (by decide) h1 h2
  refine e_S_howMany σ τ hC hV hw _ ?_
  refine ⟨rfl, ?_⟩
  refine ev_go 100 [] ?_
  refine e_M_in σ τ _ 0 7 _ ?_
  refine br_f (xb1 ⟨h1, Int32.not_lt.mpr h2⟩) ?_
  refine e_M_counted σ τ hM hV hR.1 hR.2.1 hK hw _ ?_
  exact ⟨rfl, rfl, ⟨_, rfl⟩, hR⟩
