/-! TRACKS BY LOTS -/
def wst (V : Nat → Int32) (P : xP) (a b : Nat) : xP := if a = b ∨ 16 ≤ pc P then P else if ps V (pn P) b < ps V (pn P) a then padd P a b else padd P b a
def wks (V : Nat → Int32) (s : Nat) (P : xP) : Nat → Nat × xP
  | 0 => (s, P)
  | i + 1 => ((wks V s P i).1 * 48271 % 2147483647, wst V (wks V s P i).2 ((wks V s P i).1 * 48271 % 2147483647 % pn P) ((wks V s P i).1 * 48271 % 2147483647 / 64 % pn P))
theorem wst_same {V : Nat → Int32} {P : xP} {a b : Nat} (h : a = b ∨ 16 ≤ pc P) : wst V P a b = P := if_pos h
theorem wst_a {V : Nat → Int32} {P : xP} {a b : Nat} (h : ¬ (a = b ∨ 16 ≤ pc P)) (h2 : ps V (pn P) b < ps V (pn P) a) : wst V P a b = padd P a b := by
  unfold wst
  rw [if_neg h, if_pos h2]
theorem wst_b {V : Nat → Int32} {P : xP} {a b : Nat} (h : ¬ (a = b ∨ 16 ≤ pc P)) (h2 : ¬ ps V (pn P) b < ps V (pn P) a) : wst V P a b = padd P b a := by
  unfold wst
  rw [if_neg h, if_neg h2]
theorem wst_ok {V : Nat → Int32} {P : xP} {a b : Nat} (hV : PV P) (ha : a < pn P) (hb : b < pn P) : PV (wst V P a b) ∧ pn (wst V P a b) = pn P ∧ pk (wst V P a b) = pk P ∧ pz (wst V P a b) = pz P ∧ pc P ≤ pc (wst V P a b) := by
  by_cases h : a = b ∨ 16 ≤ pc P
  · rw [wst_same h]
    exact ⟨hV, rfl, rfl, rfl, Nat.le_refl _⟩
  · by_cases h2 : ps V (pn P) b < ps V (pn P) a
    · rw [wst_a h h2]
      exact ⟨hV.add (by omega) ha hb (by omega), rfl, rfl, rfl, Nat.le_succ _⟩
    · rw [wst_b h h2]
      exact ⟨hV.add (by omega) hb ha (by omega), rfl, rfl, rfl, Nat.le_succ _⟩
theorem wks_ok {V : Nat → Int32} {s : Nat} {P : xP} (hV : PV P) (h0 : 0 < pn P) (hs : s < 2 ^ 31) : ∀ i, PV (wks V s P i).2 ∧ pn (wks V s P i).2 = pn P ∧ pk (wks V s P i).2 = pk P ∧ pz (wks V s P i).2 = pz P ∧ pc P ≤ pc (wks V s P i).2 ∧ (wks V s P i).1 < 2 ^ 31
  | 0 => ⟨hV, rfl, rfl, rfl, Nat.le_refl _, hs⟩
  | i + 1 => by
    obtain ⟨a1, a2, a3, a4, a5, a6⟩ := wks_ok (V := V) hV h0 hs i
    have m1 : (wks V s P i).1 * 48271 % 2147483647 % pn P < pn (wks V s P i).2 := by rw [a2]; exact Nat.mod_lt _ h0
    have m2 : (wks V s P i).1 * 48271 % 2147483647 / 64 % pn P < pn (wks V s P i).2 := by rw [a2]; exact Nat.mod_lt _ h0
    obtain ⟨b1, b2, b3, b4, b5⟩ := wst_ok (V := V) a1 m1 m2
    refine ⟨b1, b2.trans a2, b3.trans a3, b4.trans a4, Nat.le_trans a5 b5, ?_⟩
    have := Nat.mod_lt ((wks V s P i).1 * 48271) (show 2147483647 > 0 by decide)
    show (wks V s P i).1 * 48271 % 2147483647 < 2 ^ 31
    omega
/-- one walk, in the class -/
theorem e_S_walk (σ : xS) (τ : xL) {P : xP} (hC : PC σ 17 P) (hV : PV P) {k : Nat} (hk : k < 6) {V : Nat → Int32} (hVV : V = σ (3 + k)) (s1 : σ 9 k = nI (pn P)) (hg : ∀ i, i < pn P → gd V (pn P) i) {a b : Nat} (ha : a < pn P) (hb : b < pn P) {va vb : Int32} (ea : va = nI a) (eb : vb = nI b) : Rs m_S_walk [.ref 0, .int (nI k), .int va, .int vb] σ τ none (fun σ' => Ag [17, 21, 22] σ σ' ∧ PC σ' 17 (wst V P a b)) := by
  intro Q h
  subst hVV ea eb
  have h7 := hV.1
  have h16 := hV.2.1
  have ba := (ps_ok h7 hg ha).1
  have bb := (ps_ok h7 hg hb).1
  refine ev_go 100 [] ?_
  by_cases hab : a = b
  · refine br_t (by rw [hab]) ?_
    exact h _ ⟨Ag.refl, by rw [wst_same (Or.inl hab)]; exact hC⟩
  refine br_f (fun z => hab ((q_eq (by omega) (by omega)).mp z)) ?_
  by_cases hf : pc P < 16
  · refine br_t (by rw [hC.2.1]; exact nI_lt (b := 16) hf (by decide)) ?_
    refine e_H_indexOf σ τ hk h7 s1 hg ha _ ?_
    refine e_H_indexOf σ τ hk h7 s1 hg hb _ ?_
    have hno : ¬ (a = b ∨ 16 ≤ pc P) := by omega
    by_cases hl : ps (σ (3 + k)) (pn P) b < ps (σ (3 + k)) (pn P) a
    · refine br_f (nI_ge hl (by omega)) ?_
      refine e_P_addCrossing σ τ (Or.inl rfl) hC.2.1 hf _ ?_
      exact h _ ⟨Ag.cadd (o := 17), by rw [wst_a hno hl]; exact hC.add a b⟩
    · refine br_t (nI_le (by omega) (by omega)) ?_
      refine e_P_addCrossing σ τ (Or.inl rfl) hC.2.1 hf _ ?_
      exact h _ ⟨Ag.cadd (o := 17), by rw [wst_b hno hl]; exact hC.add b a⟩
  · refine br_f (by rw [hC.2.1]; exact nI_nlt (b := 16) (by omega) (by omega)) ?_
    exact h _ ⟨Ag.refl, by rw [wst_same (Or.inr (by omega))]; exact hC⟩
theorem lot_lt (s : Int32) : lg_cmp s.toInt64 2147483647 < 0 ↔ ¬ 2147483646 < s := by
  rw [lg_cmp_lt, Int64.lt_iff_toInt_lt, Int32.lt_iff_toInt_lt, Int32.toInt_toInt64, show (2147483647 : Int64).toInt = 2147483647 from by decide, show (2147483646 : Int32).toInt = 2147483646 from by decide]
  omega
theorem lot_next {x : Nat} (hx : x < 2 ^ 31) : lN x * 48271 - lN x * 48271 / 2147483647 * 2147483647 = lN (x * 48271 % 2147483647) := by
  rw [show (48271 : Int64) = lN 48271 from rfl, show (2147483647 : Int64) = lN 2147483647 from rfl, lN_mul]
  exact pk_lRem (by omega) (by decide) (by decide)
theorem lot_a {x n : Nat} (hx : x < 2 ^ 31) (h0 : 0 < n) (hn : n < 2 ^ 31) : (lN x - lN x / (nI n).toInt64 * (nI n).toInt64).toInt32 = nI (x % n) := by
  rw [nI_l hn, pk_lRem (by omega) h0 (by omega), lN_i]
theorem lot_b {x n : Nat} (hx : x < 2 ^ 31) (h0 : 0 < n) (hn : n < 2 ^ 31) : (lN x / 64 - lN x / 64 / (nI n).toInt64 * (nI n).toInt64).toInt32 = nI (x / 64 % n) := by
  rw [show (64 : Int64) = lN 64 from rfl, pk_lDiv (by omega) (by decide) (by decide), nI_l hn, pk_lRem (by omega) h0 (by omega), lN_i]
theorem lot_al {x n : Nat} (hx : x < 2 ^ 31) (h0 : 0 < n) (hn : n < 2 ^ 31) : lN x - lN x / (nI n).toInt64 * (nI n).toInt64 = lN (x % n) := by
  rw [nI_l hn, pk_lRem (by omega) h0 (by omega)]
theorem lot_bl {x n : Nat} (hx : x < 2 ^ 31) (h0 : 0 < n) (hn : n < 2 ^ 31) : lN x / 64 - lN x / 64 / (nI n).toInt64 * (nI n).toInt64 = lN (x / 64 % n) := by
  rw [show (64 : Int64) = lN 64 from rfl, pk_lDiv (by omega) (by decide) (by decide), nI_l hn, pk_lRem (by omega) h0 (by omega)]
/-- the model's walks, behind its bars -/
theorem e_M_walks_go (σ : xS) (τ : xL) {P : xP} (hM : PM σ P) (hV : PV P) (h2 : 0 < pn P) {k N s : Nat} (hN : N ≤ 16) (hs : s < 2 ^ 31) {V : Nat → Int32} (hg : ∀ i, i < pn P → gd V (pn P) i) (hp : ∀ j, j < pn P → σ 88 j = nI (ps V (pn P) j)) {v3 : Value} {Q : xQ} (kend : ∀ (u : Value × Value × Value) (σ' : xS), Ag [67, 77, 78] σ σ' → (∀ j, j ≠ 14 → σ' 67 j = σ 67 j) → PM σ' (wks V s P N).2 → Ev m_M_walks 66 [.ref 67, .int (nI k), .int (nI N), v3, .int 0, .long (lN (wks V s P N).1), .null, .int (nI (pc (wks V s P N).2 - pc P)), .int (nI N), u.1, u.2.1, u.2.2] [] x_g σ' τ Q) : Ev m_M_walks 66 [.ref 67, .int (nI k), .int (nI N), v3, .int 0, .long (lN s), .null, .int 0, .int 0, .null, .null, .null] [] x_g σ τ Q := by
  have h7 := hV.1
  have hlm := ev_lj (α := Value × Value × Value) (M := m_M_walks) (pc := 66) (st := []) (g := x_g) (τ := τ) (Q := Q) N (fun i u => [.ref 67, .int (nI k), .int (nI N), v3, .int 0, .long (lN (wks V s P i).1), .null, .int (nI (pc (wks V s P i).2 - pc P)), .int (nI i), u.1, u.2.1, u.2.2]) (fun i σ' => Ag [67, 77, 78] σ σ' ∧ (∀ j, j ≠ 14 → σ' 67 j = σ 67 j) ∧ PM σ' (wks V s P i).2) (fun i hi u σ1 hI kk => ?_) (fun u σ1 hI => kend u σ1 hI.1 hI.2.1 hI.2.2) (.null, .null, .null) σ ⟨Ag.refl, fun _ _ => rfl, hM⟩
  · have e : nI (pc (wks V s P 0).2 - pc P) = 0 := by
      show nI (pc P - pc P) = 0
      rw [Nat.sub_self]
      rfl
    dsimp only at hlm
    rw [e] at hlm
    exact hlm
  · obtain ⟨hA, hj, hM1⟩ := hI
    obtain ⟨b1, b2, b3, b4, b5, b6⟩ := wks_ok (V := V) (s := s) hV h2 hs i
    have hk1 := kk
    simp only [wks] at hk1
    generalize (wks V s P i).1 = x at *
    generalize (wks V s P i).2 = R at *
    have b16 := b1.2.1
    have hxm := Nat.mod_lt (x * 48271) (show 2147483647 > 0 by decide)
    have m1 := Nat.mod_lt (x * 48271 % 2147483647) h2
    have m2 := Nat.mod_lt (x * 48271 % 2147483647 / 64) h2
    have hn1 : σ1 67 10 = nI (pn P) := by rw [hM1.1, b2]
    have h88 : σ1 88 = σ 88 := hA 88 (by decide)
    refine ev_go 100 [66] ?_
    refine br_f (nI_ge hi (by omega)) ?_
    refine ⟨by decide, ?_⟩
    rw [lot_next b6]
    generalize x * 48271 % 2147483647 = y at *
    refine ⟨by rw [hn1]; exact nI_l0 (by omega) h2, ?_⟩
    rw [hn1, lot_al (by omega) h2 (by omega)]
    refine ⟨by decide, ?_⟩
    rw [lN_i]
    refine ⟨by rw [hn1]; exact nI_l0 (by omega) h2, ?_⟩
    rw [hn1, lot_bl (by omega) h2 (by omega)]
    generalize y % pn P = a at *
    generalize y / 64 % pn P = b at *
    by_cases hab : a = b
    · refine br_t (by rw [lN_i, hab]) ?_
      rw [lN_i]
      rw [wst_same (Or.inl hab)] at hk1
      show Ev m_M_walks 66 [.ref 67, .int (nI k), .int (nI N), v3, .int 0, .long (lN y), .null, .int (nI (pc R - pc P)), .int (nI i + 1), .int (nI a), .int (nI b), u.2.2] [] x_g σ1 τ Q
      rw [nI_1]
      exact hk1 (_, _, _) σ1 ⟨hA, hj, hM1⟩
    refine br_f (fun z => hab ((q_eq (by omega) (by omega)).mp (z.trans (lN_i b)))) ?_
    rw [lN_i]
    by_cases hf : pc R < 16
    case neg =>
      refine br_t (by rw [hM1.2.1]; exact nI_le (a := 16) (by omega) (by omega)) ?_
      rw [wst_same (Or.inr (by omega))] at hk1
      show Ev m_M_walks 66 [.ref 67, .int (nI k), .int (nI N), v3, .int 0, .long (lN y), .null, .int (nI (pc R - pc P)), .int (nI i + 1), .int (nI a), .int (nI b), u.2.2] [] x_g σ1 τ Q
      rw [nI_1]
      exact hk1 (_, _, _) σ1 ⟨hA, hj, hM1⟩
    refine br_f (by rw [hM1.2.1]; exact nI_ge (b := 16) hf (by decide)) ?_
    have hno : ¬ (a = b ∨ 16 ≤ pc R) := by omega
    have ba := (ps_ok h7 hg m1).1
    have bb := (ps_ok h7 hg m2).1
    refine ⟨7, rfl, q_in (by omega) (by decide), ?_⟩
    rw [cl7 (by omega), h88, hp _ m1]
    refine ⟨7, rfl, q_in (by omega) (by decide), ?_⟩
    rw [cl7 (by omega), h88, hp _ m2]
    have fin : ∀ (c d : Nat) (w : Value), (wst V R a b = padd R c d) → Ev m_M_walks 66 [.ref 67, .int (nI k), .int (nI N), v3, .int 0, .long (lN y), .null, .int (nI (pc R - pc P) + 1), .int (nI i + 1), .int (nI a), .int (nI b), w] [] x_g (m_add σ1 (pc R) c d) τ Q := by
      intro c d w ew
      rw [ew] at hk1
      rw [nI_1, nI_1, show pc R - pc P + 1 = pc (padd R c d) - pc P from by show _ = pc R + 1 - pc P; omega]
      refine hk1 (_, _, _) _ ⟨hA.trans Ag.madd, fun j hj14 => ?_, hM1.add c d⟩
      show upd (σ1 67) 14 (nI (pc R + 1)) j = σ 67 j
      simp only [upd]
      rw [if_neg hj14]
      exact hj j hj14
    have st : ∀ (c d : Nat), x_row (x_row (x_row σ1 77 (upd (σ1 77) (σ1 67 14).toNatClampNeg (nI c))) 78 (upd (x_row σ1 77 (upd (σ1 77) (σ1 67 14).toNatClampNeg (nI c)) 78) (x_row σ1 77 (upd (σ1 77) (σ1 67 14).toNatClampNeg (nI c)) 67 14).toNatClampNeg (nI d))) 67 (upd (x_row (x_row σ1 77 (upd (σ1 77) (σ1 67 14).toNatClampNeg (nI c))) 78 (upd (x_row σ1 77 (upd (σ1 77) (σ1 67 14).toNatClampNeg (nI c)) 78) (x_row σ1 77 (upd (σ1 77) (σ1 67 14).toNatClampNeg (nI c)) 67 14).toNatClampNeg (nI d)) 67) 14 (σ1 67 14 + 1)) = m_add σ1 (pc R) c d := by
      intro c d
      show x_row (x_row (x_row σ1 77 (upd (σ1 77) (σ1 67 14).toNatClampNeg (nI c))) 78 (upd (σ1 78) (σ1 67 14).toNatClampNeg (nI d))) 67 (upd (σ1 67) 14 (σ1 67 14 + 1)) = _
      rw [hM1.2.1, cl7 (by omega), nI_1]
      rfl
    by_cases hl : ps V (pn P) b < ps V (pn P) a
    · refine br_f (nI_ge hl (by omega)) ?_
      refine br_f (by decide) ?_
      refine ⟨16, rfl, by rw [hM1.2.1]; exact q_in hf (by decide), ?_⟩
      refine br_f (by decide) ?_
      refine ⟨16, rfl, by show vp_in (σ1 67 14) 16; rw [hM1.2.1]; exact q_in hf (by decide), ?_⟩
      have := fin a b (.int 1) (wst_a hno (by rw [b2]; exact hl))
      rw [← st a b] at this
      exact this
    · refine br_t (nI_le (by omega) (by omega)) ?_
      refine br_t rfl ?_
      refine ⟨16, rfl, by rw [hM1.2.1]; exact q_in hf (by decide), ?_⟩
      refine br_t rfl ?_
      refine ⟨16, rfl, by show vp_in (σ1 67 14) 16; rw [hM1.2.1]; exact q_in hf (by decide), ?_⟩
      have := fin b a (.int 0) (wst_b hno (by rw [b2]; exact hl))
      rw [← st b a] at this
      exact this
