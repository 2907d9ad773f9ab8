/-! THE CLASS'S RING -/
theorem gr_bits {n l : Nat} (hn : n ≤ 7) (hl : l < n) : nI (2 ^ n - 1) &&& (((2 : Int32) <<< (nI l &&& 31) - 1) ^^^ (-1)) = nI (bs (fun x => decide (l < x)) n) := by
  have h2 : 2 * 2 ^ l = 2 ^ (l + 1) := by rw [Nat.pow_succ, Nat.mul_comm]
  have hb : 2 ^ (l + 1) ≤ 2 ^ 8 := Nat.pow_le_pow_right (by decide) (by omega)
  have h3 : (2 : Int32) <<< (nI l &&& 31) = nI (2 ^ (l + 1)) := by
    rw [← h2]
    exact q_shl (a := 2) (by omega) (by rw [h2]; exact Nat.lt_of_le_of_lt hb (by decide))
  rw [h3, show nI (2 ^ (l + 1)) - 1 = nI (2 ^ (l + 1) - 1) from pk_sub (b := 1) Nat.one_le_two_pow, q_nd]
  congr 1
  apply Nat.eq_of_testBit_eq
  intro x
  rw [nd_bit, bs_bit, Nat.testBit_two_pow_sub_one, Nat.testBit_two_pow_sub_one]
  by_cases hx : x < n
  · by_cases hlx : l < x
    · simp [hx, hlx, show ¬ x < l + 1 by omega]
    · simp [hx, hlx, show x < l + 1 by omega]
  · simp [hx]
theorem e_G_stepBack (σ : xS) (τ : xL) {n : Nat} (h7 : n ≤ 7) {e : Nat → Nat → Bool} (hG : Gr σ n e) {l z : Nat} (hl : l < n) (hz : z ≤ 6) : Rs m_G_stepBack [.ref 31, .int (nI l), .int (nI (z + 1))] σ τ none (fun σ' => Ag [38] σ σ' ∧ Ar σ' 38 (z + 1) (fun s => bs (bk e n l s) n)) := by
  intro Q h
  have g0 : σ 31 1 &&& (((2 : Int32) <<< (nI l &&& 31) - 1) ^^^ (-1)) = nI (bs (fun x => decide (l < x)) n) := by
    rw [hG.1.2]
    exact gr_bits h7 hl
  refine ev_go 100 [25] ?_
  refine ⟨7, rfl, q_in (i := 0) (by decide) (by decide), ?_⟩
  show Ev m_G_stepBack 25 [.ref 31, .int (nI l), .int (nI (z + 1)), .int (σ 31 1 &&& (((2 : Int32) <<< (nI l &&& 31) - 1) ^^^ (-1))), .int (nI 1), .null, .null] [] x_g (x_row σ 38 (upd (σ 38) 0 ((1 : Int32) <<< (nI l &&& 31)))) τ Q
  rw [g0, q_shl1 (by omega), ← bs_one hl]
  refine ev_lj (α := Value × Value) (M := m_G_stepBack) (pc := 25) (st := []) (g := x_g) (Q := Q) (τ := τ) z (fun t u => [.ref 31, .int (nI l), .int (nI (z + 1)), .int (nI (bs (fun x => decide (l < x)) n)), .int (nI (t + 1)), u.1, u.2]) (fun t σ' => Ag [38] σ σ' ∧ Ar σ' 38 (t + 1) (fun s => bs (bk e n l s) n)) (fun t ht u σ1 hI kk => ?_) (fun u σ1 hI => ?_) (_, _) _ ⟨Ag.refl.row (by decide), fun j hj => ?_⟩
  · have hG1 := hG.ag hI.1 (by decide) (by decide)
    refine ev_go 100 [37] ?_
    refine br_f (nI_ge (by omega) (by omega)) ?_
    have z0 := ev_iter (M := m_G_stepBack) (pc := 37) (st := []) (g := x_g) (Q := Q) n (fun i => ([.ref 31, .int (nI l), .int (nI (z + 1)), .int (nI (bs (fun x => decide (l < x)) n)), .int (nI (t + 1)), .int (nI (bs (fun x => anb (fun k => bk e n l t k && e k x) i) n)), .int (nI i)], σ1, τ)) (fun i hi kk2 => ?_) ?_
    · dsimp only [anb] at z0
      rw [bs_0] at z0
      exact z0
    · dsimp only at kk2 ⊢
      have r1 : σ1 38 (nI (t + 1) - 1).toNatClampNeg = nI (bs (bk e n l t) n) := by
        rw [nI_pred]
        exact hI.2.get (by omega) (by omega)
      refine ev_go 100 [37] ?_
      refine br_f (by rw [hG1.1.1]; exact nI_ge hi (by omega)) ?_
      refine ⟨7, rfl, by rw [nI_pred]; exact q_in (by omega) (by decide), ?_⟩
      rw [r1]
      refine e_S_has σ1 τ (b31 h7) (by omega) _ ?_
      rw [show (bs (bk e n l t) n).testBit i = bk e n l t i by rw [bs_bit]; simp [hi]]
      by_cases tb : bk e n l t i = true
      · refine br_f (xb1 tb) ?_
        refine ⟨7, rfl, q_in (by omega) (by decide), ?_⟩
        rw [hG1.2.get (by omega) (by omega)]
        show Ev m_G_stepBack 37 [.ref 31, .int (nI l), .int (nI (z + 1)), .int (nI (bs (fun x => decide (l < x)) n)), .int (nI (t + 1)), .int (nI (bs (fun x => anb (fun k => bk e n l t k && e k x) i) n) ||| nI (bs (e i) n)), .int (nI i + 1)] [] x_g σ1 τ Q
        rw [nI_1, q_or, bs_orb]
        simp only [anb, tb, Bool.true_and] at kk2
        exact kk2
      · refine br_t (xb0 tb) ?_
        show Ev m_G_stepBack 37 [.ref 31, .int (nI l), .int (nI (z + 1)), .int (nI (bs (fun x => decide (l < x)) n)), .int (nI (t + 1)), .int (nI (bs (fun x => anb (fun k => bk e n l t k && e k x) i) n)), .int (nI i + 1)] [] x_g σ1 τ Q
        rw [nI_1]
        simp only [Bool.not_eq_true] at tb
        simp only [anb, tb, Bool.false_and, Bool.or_false] at kk2
        exact kk2
    · dsimp only
      refine ev_go 100 [25] ?_
      refine br_t (by rw [hG1.1.1]; exact nI_le (Nat.le_refl _) (by omega)) ?_
      refine ⟨7, rfl, q_in (by omega) (by decide), ?_⟩
      rw [q_and, bs_and, cl7 (by omega)]
      show Ev m_G_stepBack 25 [.ref 31, .int (nI l), .int (nI (z + 1)), .int (nI (bs (fun x => decide (l < x)) n)), .int (nI (t + 1) + 1), _, _] [] x_g _ τ Q
      rw [nI_1]
      refine kk (_, _) _ ⟨hI.1.row (by decide), fun j hj => ?_⟩
      rw [x_row_eq]
      simp only [upd]
      by_cases ej : j = t + 1
      · rw [if_pos ej, ej]
        exact congrArg nI (bs_ext (fun x _ => by simp only [bk]; rw [Bool.and_comm]))
      · rw [if_neg ej]
        exact hI.2 j (by omega)
  · refine ev_go 100 [] ?_
    refine br_t (nI_le (Nat.le_refl _) (by omega)) ?_
    exact h _ hI
  · have : j = 0 := by omega
    subst this
    rw [x_row_eq]
    rfl
theorem e_G_followRing_no (σ : xS) (τ : xL) {n : Nat} (h7 : n ≤ 7) {e : Nat → Nat → Bool} (hG : Gr σ n e) {l s : Nat} (hl : l < n) (hs : s ≤ 6) (hs1 : 1 ≤ s) (hB : Ar σ 38 (s + 1) (fun t => bs (bk e n l t) n)) (hc : cl e n l s = false) : Rs m_G_followRing [.ref 31, .int (nI l), .int (nI (s + 1))] σ τ (some (.int 0)) (fun σ' => Ag [37] σ σ') := by
  intro Q h
  have hno := anb_no.mp hc
  refine ev_go 100 [20] ?_
  refine ⟨7, rfl, q_in (i := 0) (by decide) (by decide), ?_⟩
  refine br_f (nI_ge (a := 1) (by omega) (by omega)) ?_
  have hA1 : Ag [37] σ (x_row σ 37 (upd (σ 37) (0 : Int32).toNatClampNeg (nI l))) := Ag.refl.row (by decide)
  have h0 : x_row σ 37 (upd (σ 37) (0 : Int32).toNatClampNeg (nI l)) 37 0 = nI l := rfl
  generalize x_row σ 37 (upd (σ 37) (0 : Int32).toNatClampNeg (nI l)) = σ1 at hA1 h0 ⊢
  have hG1 := hG.ag hA1 (by decide) (by decide)
  have hB1 := hB.ag hA1 (by decide)
  refine ev_iter (M := m_G_followRing) (pc := 20) (st := []) (g := x_g) (Q := Q) n (fun i => ([.ref 31, .int (nI l), .int (nI (s + 1)), .int (nI 1), .int (-1), .int (nI i)], σ1, τ)) (fun i hi kk => ?_) ?_
  · dsimp only at kk ⊢
    have e1 : nI (s + 1) - nI 1 = nI s := pk_sub (a := s + 1) (b := 1) (by omega)
    have hni := hno i hi
    refine ev_go 100 [20] ?_
    refine br_f (by rw [hG1.1.1]; exact nI_ge hi (by omega)) ?_
    refine br_f (by decide) ?_
    refine ⟨7, rfl, by rw [e1]; exact q_in (by omega) (by decide), ?_⟩
    rw [e1, hB1.get (by omega) (by omega)]
    refine e_S_has σ1 τ (b31 h7) (by omega) _ ?_
    rw [show (bs (bk e n l s) n).testBit i = bk e n l s i by rw [bs_bit]; simp [hi]]
    by_cases tb : bk e n l s i = true
    · refine br_f (xb1 tb) ?_
      refine ⟨7, rfl, q_in (by omega) (by decide), ?_⟩
      rw [hG1.2.get (by omega) (by omega)]
      refine ⟨7, rfl, q_in (i := 0) (by decide) (by decide), ?_⟩
      rw [show σ1 37 (nI 1 - 1).toNatClampNeg = nI l from h0]
      refine e_S_has σ1 τ (b31 h7) (by omega) _ ?_
      rw [show (bs (e i) n).testBit l = e i l by rw [bs_bit]; simp [hl]]
      rw [tb, Bool.true_and] at hni
      refine br_t (xb0 (by rw [hni]; decide)) ?_
      show Ev m_G_followRing 20 [.ref 31, .int (nI l), .int (nI (s + 1)), .int (nI 1), .int (-1), .int (nI i + 1)] [] x_g σ1 τ Q
      rw [nI_1]
      exact kk
    · refine br_t (xb0 tb) ?_
      show Ev m_G_followRing 20 [.ref 31, .int (nI l), .int (nI (s + 1)), .int (nI 1), .int (-1), .int (nI i + 1)] [] x_g σ1 τ Q
      rw [nI_1]
      exact kk
  · dsimp only
    refine ev_go 100 [] ?_
    refine br_t (by rw [hG1.1.1]; exact nI_le (Nat.le_refl _) (by omega)) ?_
    refine br_f (by decide) ?_
    exact ⟨Or.inl rfl, h _ hA1⟩
theorem e_G_followRing_ok (σ : xS) (τ : xL) {n : Nat} (h7 : n ≤ 7) {e : Nat → Nat → Bool} (hG : Gr σ n e) {l s : Nat} (hl : l < n) (hs : s ≤ 6) (hs1 : 1 ≤ s) (hB : Ar σ 38 (s + 1) (fun t => bs (bk e n l t) n)) (hc : cl e n l s = true) : Rs m_G_followRing [.ref 31, .int (nI l), .int (nI (s + 1))] σ τ (some (.int 1)) (fun σ' => Ag [37] σ σ' ∧ Ar σ' 37 (s + 1) (rt e n l s)) := by
  intro Q h
  refine ev_go 100 [9] ?_
  refine ⟨7, rfl, q_in (i := 0) (by decide) (by decide), ?_⟩
  refine ev_lj (α := Value × Value) (M := m_G_followRing) (pc := 9) (st := []) (g := x_g) (Q := Q) (τ := τ) s (fun q u => [.ref 31, .int (nI l), .int (nI (s + 1)), .int (nI (q + 1)), u.1, u.2]) (fun q σ' => Ag [37] σ σ' ∧ Ar σ' 37 (q + 1) (rt e n l s)) (fun q hq u σ1 hI kk => ?_) (fun u σ1 hI => ?_) (_, _) _ ⟨Ag.refl.row (by decide), fun j hj => ?_⟩
  · have hG1 := hG.ag hI.1 (by decide) (by decide)
    have hB1 := hB.ag hI.1 (by decide)
    obtain ⟨x1, x2, x3, x4⟩ := rt_ok hc q hq
    have hrq : rt e n l s q < n := by
      cases q with
      | zero => exact hl
      | succ q => exact (rt_ok hc q (by omega)).1
    have rq : σ1 37 (nI (q + 1) - 1).toNatClampNeg = nI (rt e n l s q) := by
      rw [nI_pred]
      exact hI.2.get (by omega) (by omega)
    have e1 : nI (s + 1) - nI (q + 1) = nI (s - q) := by
      rw [pk_sub (by omega)]
      congr 1
      omega
    have fin : Ev m_G_followRing 9 [.ref 31, .int (nI l), .int (nI (s + 1)), .int (nI (q + 1) + 1), .int (nI (rt e n l s (q + 1))), .int (nI (rt e n l s (q + 1) + 1))] [] x_g (x_row σ1 37 (upd (σ1 37) (q + 1) (nI (rt e n l s (q + 1))))) τ Q := by
      rw [nI_1]
      refine kk (_, _) _ ⟨hI.1.row (by decide), fun j hj => ?_⟩
      rw [x_row_eq]
      simp only [upd]
      by_cases ej : j = q + 1
      · rw [if_pos ej, ej]
      · rw [if_neg ej]
        exact hI.2 j (by omega)
    generalize rt e n l s (q + 1) = x at x1 x2 x3 x4 fin
    have at81 : Ev m_G_followRing 81 [.ref 31, .int (nI l), .int (nI (s + 1)), .int (nI (q + 1)), .int (nI x), .int (nI (x + 1))] [] x_g σ1 τ Q := by
      refine ev_go 100 [9] ?_
      refine br_t (nI_pos' (by omega)) ?_
      refine ⟨7, rfl, q_in (by omega) (by decide), ?_⟩
      rw [cl7 (by omega)]
      exact fin
    refine ev_go 100 [20] ?_
    refine br_f (nI_ge (by omega) (by omega)) ?_
    refine ev_iter (M := m_G_followRing) (pc := 20) (st := []) (g := x_g) (Q := Q) x (fun i => ([.ref 31, .int (nI l), .int (nI (s + 1)), .int (nI (q + 1)), .int (-1), .int (nI i)], σ1, τ)) (fun i hi kk2 => ?_) ?_
    · dsimp only at kk2 ⊢
      have hni := x4 i hi
      refine ev_go 100 [20] ?_
      refine br_f (by rw [hG1.1.1]; exact nI_ge (by omega) (by omega)) ?_
      refine br_f (by decide) ?_
      refine ⟨7, rfl, by rw [e1]; exact q_in (by omega) (by decide), ?_⟩
      rw [e1, hB1.get (by omega) (by omega)]
      refine e_S_has σ1 τ (b31 h7) (by omega) _ ?_
      rw [show (bs (bk e n l (s - q)) n).testBit i = bk e n l (s - q) i by rw [bs_bit]; simp [show i < n by omega]]
      by_cases tb : bk e n l (s - q) i = true
      · refine br_f (xb1 tb) ?_
        refine ⟨7, rfl, q_in (by omega) (by decide), ?_⟩
        rw [hG1.2.get (by omega) (by omega)]
        refine ⟨7, rfl, by rw [nI_pred]; exact q_in (by omega) (by decide), ?_⟩
        rw [rq]
        refine e_S_has σ1 τ (b31 h7) (by omega) _ ?_
        rw [show (bs (e i) n).testBit (rt e n l s q) = e i (rt e n l s q) by rw [bs_bit]; simp [hrq]]
        rw [tb, Bool.true_and] at hni
        refine br_t (xb0 (by rw [hni]; decide)) ?_
        show Ev m_G_followRing 20 [.ref 31, .int (nI l), .int (nI (s + 1)), .int (nI (q + 1)), .int (-1), .int (nI i + 1)] [] x_g σ1 τ Q
        rw [nI_1]
        exact kk2
      · refine br_t (xb0 tb) ?_
        show Ev m_G_followRing 20 [.ref 31, .int (nI l), .int (nI (s + 1)), .int (nI (q + 1)), .int (-1), .int (nI i + 1)] [] x_g σ1 τ Q
        rw [nI_1]
        exact kk2
    · dsimp only
      refine ev_go 100 [20] ?_
      refine br_f (by rw [hG1.1.1]; exact nI_ge (by omega) (by omega)) ?_
      refine br_f (by decide) ?_
      refine ⟨7, rfl, by rw [e1]; exact q_in (by omega) (by decide), ?_⟩
      rw [e1, hB1.get (by omega) (by omega)]
      refine e_S_has σ1 τ (b31 h7) (by omega) _ ?_
      rw [show (bs (bk e n l (s - q)) n).testBit x = bk e n l (s - q) x by rw [bs_bit]; simp [x1]]
      refine br_f (xb1 x2) ?_
      refine ⟨7, rfl, q_in (by omega) (by decide), ?_⟩
      rw [hG1.2.get (by omega) (by omega)]
      refine ⟨7, rfl, by rw [nI_pred]; exact q_in (by omega) (by decide), ?_⟩
      rw [rq]
      refine e_S_has σ1 τ (b31 h7) (by omega) _ ?_
      rw [show (bs (e x) n).testBit (rt e n l s q) = e x (rt e n l s q) by rw [bs_bit]; simp [hrq]]
      refine br_f (xb1 x3) ?_
      show Ev m_G_followRing 20 [.ref 31, .int (nI l), .int (nI (s + 1)), .int (nI (q + 1)), .int (nI x), .int (nI x + 1)] [] x_g σ1 τ Q
      rw [nI_1]
      refine ev_go 100 [81] ?_
      refine And.intro (fun _ => at81) (fun _ => ?_)
      refine br_t (nI_pos' (by omega)) ?_
      exact at81
  · refine ev_go 100 [] ?_
    refine br_t (nI_le (Nat.le_refl _) (by omega)) ?_
    exact ⟨Or.inr rfl, h _ hI⟩
  · have : j = 0 := by omega
    subst this
    rw [x_row_eq]
    rfl
/-- a row of sizes in which no ring is -/
theorem e_G_findRing_in (σ : xS) (τ : xL) {n : Nat} (h7 : n ≤ 7) {e : Nat → Nat → Bool} (hG : Gr σ n e) {s m : Nat} (hs : s ≤ 6) (hs1 : 1 ≤ s) (hm : m ≤ n) (hc : ∀ l, l < m → cl e n l s = false) {Q : xQ} (kk : ∀ σ', Ag [37, 38] σ σ' → Ev m_G_findRing 12 [.ref 31, .int (nI (s + 1)), .int (nI m)] [] x_g σ' τ Q) : ∀ σ1, Ag [37, 38] σ σ1 → Ev m_G_findRing 12 [.ref 31, .int (nI (s + 1)), .int (nI 0)] [] x_g σ1 τ Q := by
  refine ev_lp (M := m_G_findRing) (pc := 12) (st := []) (g := x_g) (Q := Q) (τ := τ) m (fun l => [.ref 31, .int (nI (s + 1)), .int (nI l)]) (fun l σ' => Ag [37, 38] σ σ') (fun l hl σ1 hI kk2 => ?_) (fun σ1 hI => kk σ1 hI)
  have hG1 := hG.ag hI (by decide) (by decide)
  refine ev_go 100 [12] ?_
  refine br_f (by rw [hG1.1.1]; exact nI_ge (by omega) (by omega)) ?_
  refine e_G_stepBack σ1 τ h7 hG1 (by omega) hs _ (fun σ2 h2 => ?_)
  have hG2 := hG1.ag h2.1 (by decide) (by decide)
  refine e_G_followRing_no σ2 τ h7 hG2 (by omega) hs hs1 h2.2 (hc l hl) _ (fun σ3 h3 => ?_)
  refine br_t rfl ?_
  show Ev m_G_findRing 12 [.ref 31, .int (nI (s + 1)), .int (nI l + 1)] [] x_g σ3 τ Q
  rw [nI_1]
  exact kk2 _ ((hI.trans (h2.1.mono (by decide))).trans (h3.mono (by decide)))
theorem e_G_findRing_out (σ : xS) (τ : xL) {n : Nat} (h7 : n ≤ 7) {e : Nat → Nat → Bool} (hG : Gr σ n e) {a : Nat} (ha : a + 1 ≤ n) (hc : ∀ s l, s ≤ a → l < n → cl e n l s = false) {Q : xQ} (kk : ∀ u σ', Ag [37, 38] σ σ' → Ev m_G_findRing 2 [.ref 31, .int (nI (a + 2)), u] [] x_g σ' τ Q) : ∀ u σ1, Ag [37, 38] σ σ1 → Ev m_G_findRing 2 [.ref 31, .int (nI 2), u] [] x_g σ1 τ Q := by
  refine ev_lj (α := Value) (M := m_G_findRing) (pc := 2) (st := []) (g := x_g) (Q := Q) (τ := τ) a (fun b u => [.ref 31, .int (nI (b + 2)), u]) (fun b σ' => Ag [37, 38] σ σ') (fun b hb u σ1 hI kk2 => ?_) (fun u σ1 hI => kk u σ1 hI)
  have hG1 := hG.ag hI (by decide) (by decide)
  refine ev_go 100 [12] ?_
  refine br_f (by rw [hG1.1.1]; exact nI_nlt (by omega) (by omega)) ?_
  refine e_G_findRing_in σ1 τ h7 hG1 (s := b + 1) (m := n) (by omega) (by omega) (Nat.le_refl n) (fun l hl => hc (b + 1) l (by omega) hl) (fun σ2 h2 => ?_) σ1 Ag.refl
  refine ev_go 100 [2] ?_
  refine br_t (by rw [h2 31 (by decide), hG1.1.1]; exact nI_le (Nat.le_refl _) (by omega)) ?_
  show Ev m_G_findRing 2 [.ref 31, .int (nI (b + 1 + 1) + 1), .int (nI n)] [] x_g σ2 τ Q
  rw [nI_1]
  exact kk2 _ _ (hI.trans h2)
theorem e_G_findRing_no (σ : xS) (τ : xL) {n : Nat} (h7 : n ≤ 7) {e : Nat → Nat → Bool} (hG : Gr σ n e) (hc : ∀ s l, s < n → l < n → cl e n l s = false) : Rs m_G_findRing [.ref 31] σ τ (some (.int 0)) (fun σ' => Ag [37, 38] σ σ') := by
  intro Q h
  have fin : ∀ (a : Nat) (u : Value) (σ' : xS), n < a + 2 → a < 10 → Ag [37, 38] σ σ' → Ev m_G_findRing 2 [.ref 31, .int (nI (a + 2)), u] [] x_g σ' τ Q := by
    intro a u σ' ha ha2 hA
    refine ev_go 100 [] ?_
    refine br_t (by rw [hA 31 (by decide), hG.1.1]; exact nI_lt ha (by omega)) ?_
    exact h _ hA
  refine ev_go 100 [2] ?_
  by_cases hn : n = 0
  · exact fin 0 _ σ (by omega) (by omega) Ag.refl
  · exact e_G_findRing_out σ τ h7 hG (a := n - 1) (by omega) (fun s l hs hl => hc s l (by omega) hl) (fun u σ' hA => fin (n - 1) u σ' (by omega) (by omega) hA) _ σ Ag.refl
theorem e_G_findRing_ok (σ : xS) (τ : xL) {n : Nat} (h7 : n ≤ 7) {e : Nat → Nat → Bool} (hG : Gr σ n e) {s l : Nat} (hs : s < n) (hs1 : 1 ≤ s) (hl : l < n) (hc : cl e n l s = true) (hm : ∀ s' l', s' < s → l' < n → cl e n l' s' = false) (hm2 : ∀ l', l' < l → cl e n l' s = false) : Rs m_G_findRing [.ref 31] σ τ (some (.int (nI (s + 1)))) (fun σ' => Ag [37, 38] σ σ' ∧ Ar σ' 37 (s + 1) (rt e n l s)) := by
  intro Q h
  refine ev_go 100 [2] ?_
  refine e_G_findRing_out σ τ h7 hG (a := s - 1) (by omega) (fun s' l' h1 h2 => hm s' l' (by omega) h2) (fun u σ1 hA => ?_) _ σ Ag.refl
  rw [show s - 1 + 2 = s + 1 by omega]
  have hG1 := hG.ag hA (by decide) (by decide)
  refine ev_go 100 [12] ?_
  refine br_f (by rw [hG1.1.1]; exact nI_nlt (by omega) (by omega)) ?_
  refine e_G_findRing_in σ1 τ h7 hG1 (s := s) (m := l) (by omega) hs1 (by omega) hm2 (fun σ2 h2 => ?_) σ1 Ag.refl
  have hG2 := hG1.ag h2 (by decide) (by decide)
  refine ev_go 100 [] ?_
  refine br_f (by rw [hG2.1.1]; exact nI_ge hl (by omega)) ?_
  refine e_G_stepBack σ2 τ h7 hG2 hl (by omega) _ (fun σ3 h3 => ?_)
  have hG3 := hG2.ag h3.1 (by decide) (by decide)
  refine e_G_followRing_ok σ3 τ h7 hG3 hl (by omega) hs1 h3.2 hc _ (fun σ4 h4 => ?_)
  refine br_f (by decide) ?_
  exact h _ ⟨((hA.trans h2).trans (h3.1.mono (by decide))).trans (h4.1.mono (by decide)), h4.2⟩
