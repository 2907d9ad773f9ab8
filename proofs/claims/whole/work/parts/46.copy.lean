theorem q_sub_toInt {a b : Nat} (ha : a < 2 ^ 31) (hb : b < 2 ^ 31) : (nI a - nI b).toInt = (a : Int) - b := by
  rw [Int32.toInt_sub, nI_toInt ha, nI_toInt hb]
  exact Int.bmod_eq_of_le (by omega) (by omega)
theorem q_fit {s : Nat} (hs : s ≤ 40) {i n : Int32} (hn : ¬ n < 0) (hi : ¬ i < 0) (h : ¬ (nI s - n) < i) : ∃ a b : Nat, i = nI a ∧ n = nI b ∧ a + b ≤ s := by
  obtain ⟨b, hb, rfl⟩ := nI_of hn
  obtain ⟨a, ha, rfl⟩ := nI_of hi
  refine ⟨a, b, rfl, rfl, ?_⟩
  rw [Int32.lt_iff_toInt_lt, q_sub_toInt (by omega) hb, nI_toInt ha] at h
  omega
/-- the model's copying -/
def m_cp (σ : xS) (a i b j n : Nat) : xS := x_row (x_row σ 71 (va_cpy (σ 70) (σ 71) (40 * a + i) 0 n)) 70 (va_cpy (σ 70) (σ 70) (40 * a + i) (40 * b + j) n)
theorem e_M_copy_ok (σ : xS) (τ : xL) {a b i j n s t : Nat} (ha : a < 6) (hb : b < 6) (hs : σ 69 a = nI s) (ht : σ 69 b = nI t) (hs4 : s ≤ 40) (ht4 : t ≤ 40) (hi : i + n ≤ s) (hj : j + n ≤ t) : Rn m_M_copy [.ref 67, .int (nI a), .int (nI i), .int (nI b), .int (nI j), .int (nI n)] σ τ (some (.int 1)) (m_cp σ a i b j n) τ := by
  intro Q h
  refine ev_go 200 [100] ?_
  refine e_M_isRow σ τ _ _ ?_
  refine br_f (xb1 (in_row ha)) ?_
  refine e_M_isRow σ τ _ _ ?_
  refine bn_t (xb1 (in_row hb)) ?_
  refine br_t (nI_pos' (by omega)) ?_
  have ea : (nI a).toNatClampNeg = a := nI_clamp (by omega)
  have eb : (nI b).toNatClampNeg = b := nI_clamp (by omega)
  refine ⟨6, rfl, q_in ha (by decide), ?_⟩
  refine br_f (by rw [ea, hs]; exact nI_ne9 (by omega)) ?_
  refine ⟨6, rfl, q_in hb (by decide), ?_⟩
  refine bn_t (by rw [eb, ht]; exact nI_ne9 (by omega)) ?_
  refine br_f (nI_pos (by omega)) ?_
  refine br_f (nI_pos (by omega)) ?_
  refine ⟨6, rfl, q_in ha (by decide), ?_⟩
  refine br_f (by rw [ea, hs, pk_sub (by omega)]; exact nI_nlt (by omega) (by omega)) ?_
  refine ⟨6, rfl, q_in hb (by decide), ?_⟩
  refine br_t (by rw [eb, ht, pk_sub (by omega)]; exact nI_le (by omega) (by omega)) ?_
  have := ev_iter (M := m_M_copy) (pc := 100) (st := []) (g := x_g) (Q := Q) n (fun k => ([.ref 67, .int (nI a), .int (nI i), .int (nI b), .int (nI j), .int (nI n), .int (nI k)], x_row σ 71 (va_cpy (σ 70) (σ 71) (40 * a + i) 0 k), τ)) (fun k hk kk => ?_) ?_
  · dsimp only at this
    rw [cpy_0, x_row_same] at this
    exact this
  · dsimp only at kk ⊢
    refine ev_go 200 [100] ?_
    refine br_f (nI_ge hk (by omega)) ?_
    have e : (40 : Int32) * nI a + nI i + nI k = nI (40 * a + i + k) := by rw [show (40 : Int32) = nI 40 from rfl, pk_mul, nI_add, nI_add]
    refine ⟨240, rfl, by rw [e]; exact q_in (by omega) (by decide), ?_⟩
    refine ⟨40, rfl, q_in (by omega) (by decide), ?_⟩
    show Ev m_M_copy 100 [.ref 67, .int (nI a), .int (nI i), .int (nI b), .int (nI j), .int (nI n), .int (nI k + 1)] [] x_g (x_row (x_row σ 71 (va_cpy (σ 70) (σ 71) (40 * a + i) 0 k)) 71 (upd (va_cpy (σ 70) (σ 71) (40 * a + i) 0 k) (nI k).toNatClampNeg (σ 70 ((40 : Int32) * nI a + nI i + nI k).toNatClampNeg))) τ Q
    rw [e, nI_clamp (n := 40 * a + i + k) (by omega), nI_clamp (n := k) (by omega), nI_1, x_row_row]
    have := cpy_s (σ 70) (σ 71) (40 * a + i) 0 k
    rw [Nat.zero_add] at this
    rw [this]
    exact kk
  · dsimp only
    refine ev_go 200 [137] ?_
    refine br_t (nI_le (Nat.le_refl n) (by omega)) ?_
    have := ev_iter (M := m_M_copy) (pc := 137) (st := []) (g := x_g) (Q := Q) n (fun k => ([.ref 67, .int (nI a), .int (nI i), .int (nI b), .int (nI j), .int (nI n), .int (nI k)], x_row (x_row σ 71 (va_cpy (σ 70) (σ 71) (40 * a + i) 0 n)) 70 (va_cpy (σ 70) (σ 70) (40 * a + i) (40 * b + j) k), τ)) (fun k hk kk => ?_) ?_
    · dsimp only at this
      rw [cpy_0, show x_row (x_row σ 71 (va_cpy (σ 70) (σ 71) (40 * a + i) 0 n)) 70 (σ 70) = x_row σ 71 (va_cpy (σ 70) (σ 71) (40 * a + i) 0 n) from x_row_same (x_row σ 71 (va_cpy (σ 70) (σ 71) (40 * a + i) 0 n)) 70] at this
      exact this
    · dsimp only at kk ⊢
      refine ev_go 200 [137] ?_
      refine br_f (nI_ge hk (by omega)) ?_
      have e : (40 : Int32) * nI b + nI j + nI k = nI (40 * b + j + k) := by rw [show (40 : Int32) = nI 40 from rfl, pk_mul, nI_add, nI_add]
      refine ⟨40, rfl, q_in (by omega) (by decide), ?_⟩
      refine ⟨240, rfl, by rw [e]; exact q_in (by omega) (by decide), ?_⟩
      show Ev m_M_copy 137 [.ref 67, .int (nI a), .int (nI i), .int (nI b), .int (nI j), .int (nI n), .int (nI k + 1)] [] x_g (x_row (x_row (x_row σ 71 (va_cpy (σ 70) (σ 71) (40 * a + i) 0 n)) 70 (va_cpy (σ 70) (σ 70) (40 * a + i) (40 * b + j) k)) 70 (upd (va_cpy (σ 70) (σ 70) (40 * a + i) (40 * b + j) k) ((40 : Int32) * nI b + nI j + nI k).toNatClampNeg (va_cpy (σ 70) (σ 71) (40 * a + i) 0 n (nI k).toNatClampNeg))) τ Q
      rw [e, nI_clamp (n := 40 * b + j + k) (by omega), nI_clamp (n := k) (by omega), nI_1, x_row_row, show va_cpy (σ 70) (σ 71) (40 * a + i) 0 n k = σ 70 (40 * a + i + k) from pk_cpy_in (Nat.zero_le k) (by omega), cpy_s]
      exact kk
    · dsimp only
      refine ev_go 200 [137] ?_
      refine br_t (nI_le (Nat.le_refl n) (by omega)) ?_
      exact h
theorem e_M_copy_bey (σ : xS) (τ : xL) {a b s t : Nat} (ha : a < 6) (hb : b < 6) (hs : σ 69 a = nI s) (ht : σ 69 b = nI t) (hs4 : s ≤ 40) (ht4 : t ≤ 40) (i j n : Int32) (hn : ¬ n < 0) (h0 : ¬ ((∃ x y : Nat, i = nI x ∧ n = nI y ∧ x + y ≤ s) ∧ ∃ x y : Nat, j = nI x ∧ n = nI y ∧ x + y ≤ t)) : Rn m_M_copy [.ref 67, .int (nI a), .int i, .int (nI b), .int j, .int n] σ τ (some (.int (-3))) (m_fnd σ 2) τ := by
  intro Q h
  refine ev_go 200 [] ?_
  refine e_M_isRow σ τ _ _ ?_
  refine br_f (xb1 (in_row ha)) ?_
  refine e_M_isRow σ τ _ _ ?_
  refine bn_t (xb1 (in_row hb)) ?_
  refine br_t (Int32.not_lt.mp hn) ?_
  have ea : (nI a).toNatClampNeg = a := nI_clamp (by omega)
  have eb : (nI b).toNatClampNeg = b := nI_clamp (by omega)
  refine ⟨6, rfl, q_in ha (by decide), ?_⟩
  refine br_f (by rw [ea, hs]; exact nI_ne9 (by omega)) ?_
  refine ⟨6, rfl, q_in hb (by decide), ?_⟩
  refine bn_t (by rw [eb, ht]; exact nI_ne9 (by omega)) ?_
  refine And.intro (fun h1 => ?_) (fun h1 => And.intro (fun h2 => ?_) (fun h2 => ?_))
  · refine e_M_finds σ τ 2 in2 _ ?_
    exact h
  · refine e_M_finds σ τ 2 in2 _ ?_
    exact h
  · refine ⟨6, rfl, q_in ha (by decide), ?_⟩
    refine And.intro (fun h3 => ?_) (fun h3 => ?_)
    · refine e_M_finds σ τ 2 in2 _ ?_
      exact h
    · rw [ea, hs] at h3
      refine ⟨6, rfl, q_in hb (by decide), ?_⟩
      refine And.intro (fun h4 => ?_) (fun h4 => ?_)
      · rw [eb, ht] at h4
        exact absurd ⟨q_fit hs4 hn h1 h3, q_fit ht4 hn h2 (Int32.not_lt.mpr h4)⟩ h0
      · refine e_M_finds σ τ 2 in2 _ ?_
        exact h
theorem RelR.cp {σ σ' : xS} (h : RelR σ) {a b i j n : Nat} (ha : a < 6) (hb : b < 6) (hi : i + n ≤ 40) (hj : j + n ≤ 40) (h1 : σ' 1 2 = σ 1 2) (h2 : σ' 9 = σ 9) (h3 : σ' 69 = σ 69) (h4 : ∀ r, r < 6 → σ' (3 + r) = if r = b then va_cpy (σ (3 + a)) (σ (3 + b)) i j n else σ (3 + r)) (h5 : σ' 70 = va_cpy (σ 70) (σ 70) (40 * a + i) (40 * b + j) n) : RelR σ' := by
  refine ⟨by rw [h1]; exact h.1, fun r hr => ⟨by rw [h2, h3]; exact (h.2 r hr).1, fun x hx => ?_⟩⟩
  rw [h4 r hr, h5]
  by_cases e : r = b
  · subst e
    rw [if_pos rfl]
    by_cases e2 : j ≤ x ∧ x < j + n
    · rw [pk_cpy_in e2.1 e2.2, pk_cpy_in (by omega) (by omega), (h.2 a ha).2 (i + (x - j)) (by omega)]
      congr 1
      omega
    · rw [pk_cpy_out (by omega), pk_cpy_out (by omega)]
      exact (h.2 r hr).2 x hx
  · rw [if_neg e, pk_cpy_out (by omega)]
    exact (h.2 r hr).2 x hx
theorem pair_copy (r i t j n : Int32) : Pair m_S_copy m_M_copy [.int r, .int i, .int t, .int j, .int n] := by
  intro σ τ hR
  refine ev_go 200 [] ?_
  refine e_H_isNumber1 σ τ r _ ?_
  have bad : ∀ (h0 : (r < 0 ∨ nI 6 ≤ r) ∨ (t < 0 ∨ nI 6 ≤ t)), Ev m_M_copy 0 (x_loc [.ref 67, .int r, .int i, .int t, .int j, .int n] m_M_copy.2.2.1) [] x_g σ τ (fun r2 g2 σ2 τ2 => g2 = x_g ∧ some (Value.int (-1)) = r2 ∧ (∃ v, some (Value.int (-1)) = some v) ∧ Rel σ2 τ2) := by
    intro h0
    refine ev_go 200 [] ?_
    refine e_M_isRow σ τ _ _ ?_
    refine And.intro (fun h1 => ?_) (fun h1 => ?_)
    · exact ⟨rfl, rfl, ⟨_, rfl⟩, hR⟩
    · refine e_M_isRow σ τ _ _ ?_
      refine bn_f (xb0 (fun q => ?_)) ?_
      · have h2 := Classical.not_not.mp (fun z => h1 (xb0 z))
        rcases h0 with h0 | h0
        · exact h0.elim h2.1 (fun z => h2.2 ((q_5 r).mpr z))
        · exact h0.elim q.1 (fun z => q.2 ((q_5 t).mpr z))
      · exact ⟨rfl, rfl, ⟨_, rfl⟩, hR⟩
  rcases q_ix r 6 (by decide) with h0 | ⟨a, ha, rfl⟩
  · refine br_t (xb0 (fun q => h0.elim q.1 q.2)) ?_
    exact ⟨rfl, bad (Or.inl h0)⟩
  refine br_f (xb1 (in_row6 ha)) ?_
  refine e_H_isNumber1 σ τ t _ ?_
  rcases q_ix t 6 (by decide) with h0 | ⟨b, hb, rfl⟩
  · refine bn_f (xb0 (fun q => h0.elim q.1 q.2)) ?_
    exact ⟨rfl, bad (Or.inr h0)⟩
  refine bn_t (xb1 (in_row6 hb)) ?_
  refine And.intro (fun hn => ?_) (fun hn => ?_)
  · have ea : (nI a).toNatClampNeg = a := nI_clamp (by omega)
    have eb : (nI b).toNatClampNeg = b := nI_clamp (by omega)
    have none : (σ 9 a = -1 ∧ σ 69 a = -9) ∨ (σ 9 b = -1 ∧ σ 69 b = -9) → Ev m_M_copy 0 (x_loc [.ref 67, .int (nI a), .int i, .int (nI b), .int j, .int n] m_M_copy.2.2.1) [] x_g (c_ref σ 1) τ (fun r2 g2 σ2 τ2 => g2 = x_g ∧ some (Value.int (-3)) = r2 ∧ (∃ v, some (Value.int (-3)) = some v) ∧ Rel σ2 τ2) := by
      intro h0
      refine ev_go 200 [] ?_
      refine e_M_isRow _ τ _ _ ?_
      refine br_f (xb1 (in_row ha)) ?_
      refine e_M_isRow _ τ _ _ ?_
      refine bn_t (xb1 (in_row hb)) ?_
      refine br_t hn ?_
      refine ⟨6, rfl, q_in ha (by decide), ?_⟩
      refine And.intro (fun h1 => ?_) (fun h1 => ?_)
      · refine e_M_finds _ τ 1 in1 _ ?_
        exact ⟨rfl, rfl, ⟨_, rfl⟩, hR.find (f := 1) (by decide)⟩
      · refine ⟨6, rfl, q_in hb (by decide), ?_⟩
        refine bn_f ?_ ?_
        · rcases h0 with h0 | h0
          · exact absurd (show σ 69 (nI a).toNatClampNeg = -9 by rw [ea]; exact h0.2) h1
          · show σ 69 (nI b).toNatClampNeg = -9
            rw [eb]
            exact h0.2
        · refine e_M_finds _ τ 1 in1 _ ?_
          exact ⟨rfl, rfl, ⟨_, rfl⟩, hR.find (f := 1) (by decide)⟩
    refine e_H_isThere1 σ τ _ (q_in ha (by decide)) _ ?_
    rcases hR.1.size ha with h1 | ⟨s, hs, h1, h2⟩
    · refine br_t (xb0 (fun q => q (by rw [ea, h1.1]; decide))) ?_
      refine e_S_refuse σ τ 1 in1 _ ?_
      exact ⟨rfl, none (Or.inl h1)⟩
    refine br_f (xb1 (by rw [ea, h1]; exact nI_pos (by omega))) ?_
    refine e_H_isThere1 σ τ _ (q_in hb (by decide)) _ ?_
    rcases hR.1.size hb with h3 | ⟨u, hu, h3, h4⟩
    · refine bn_f (xb0 (fun q => q (by rw [eb, h3.1]; decide))) ?_
      refine e_S_refuse σ τ 1 in1 _ ?_
      exact ⟨rfl, none (Or.inr h3)⟩
    refine bn_t (xb1 (by rw [eb, h3]; exact nI_pos (by omega))) ?_
    have hn' := Int32.not_lt.mpr hn
    have bey : ¬ ((∃ x y : Nat, i = nI x ∧ n = nI y ∧ x + y ≤ s) ∧ ∃ x y : Nat, j = nI x ∧ n = nI y ∧ x + y ≤ u) → Ev m_M_copy 0 (x_loc [.ref 67, .int (nI a), .int i, .int (nI b), .int j, .int n] m_M_copy.2.2.1) [] x_g (c_ref σ 2) τ (fun r2 g2 σ2 τ2 => g2 = x_g ∧ some (Value.int (-3)) = r2 ∧ (∃ v, some (Value.int (-3)) = some v) ∧ Rel σ2 τ2) := fun h0 => e_M_copy_bey (c_ref σ 2) τ ha hb h2 h4 hs hu i j n hn' h0 _ ⟨rfl, rfl, ⟨_, rfl⟩, hR.find (f := 2) (by decide)⟩
    refine e_H_hasPlaces σ τ ha i n _ ?_
    rw [h1]
    by_cases hA : ∃ x y : Nat, i = nI x ∧ n = nI y ∧ x + y ≤ s
    · refine br_f (xb1 ((q_places hs i n hn').mpr hA)) ?_
      refine e_H_hasPlaces σ τ hb j n _ ?_
      rw [h3]
      by_cases hB : ∃ x y : Nat, j = nI x ∧ n = nI y ∧ x + y ≤ u
      · refine bn_t (xb1 ((q_places hu j n hn').mpr hB)) ?_
        obtain ⟨x, y, rfl, rfl, hxy⟩ := hA
        obtain ⟨z, y', rfl, hy, hzy⟩ := hB
        have : y = y' := (nI_eq (by omega) (by omega)).mp hy
        subst this
        refine ⟨18, 6, 3 + a, rfl, Or.inl rfl, q_in ha (by decide), by rw [ea]; exact rf_rows a ha, ?_⟩
        refine ⟨18, 6, 3 + b, rfl, Or.inl rfl, q_in hb (by decide), by rw [eb]; exact rf_rows b hb, ?_⟩
        refine ⟨40, 40, sh_rows a ha, sh_rows b hb, ⟨nI_pos (by omega), nI_pos (by omega), nI_pos (by omega), by rw [nI_clamp (by omega), nI_clamp (by omega)]; omega, by rw [nI_clamp (by omega), nI_clamp (by omega)]; omega⟩, ?_⟩
        refine ⟨rfl, ?_⟩
        have hx : ∀ q, q ≠ 3 + b → x_row σ (3 + b) (va_cpy (σ (3 + a)) (σ (3 + b)) (nI x).toNatClampNeg (nI z).toNatClampNeg (nI y).toNatClampNeg) q = σ q := fun q q2 => x_row_ne q2
        refine e_M_copy_ok _ τ ha hb (by rw [hx 69 (by omega)]; exact h2) (by rw [hx 69 (by omega)]; exact h4) hs hu hxy hzy _ ?_
        refine ⟨rfl, rfl, ⟨_, rfl⟩, ?_⟩
        unfold m_cp
        rw [hx 70 (by omega), hx 71 (by omega)]
        rw [nI_clamp (n := x) (by omega), nI_clamp (n := y) (by omega), nI_clamp (n := z) (by omega)] at hx ⊢
        have hz : ∀ q, q ≠ 70 → q ≠ 71 → x_row (x_row (x_row σ (3 + b) (va_cpy (σ (3 + a)) (σ (3 + b)) x z y)) 71 (va_cpy (σ 70) (σ 71) (40 * a + x) 0 y)) 70 (va_cpy (σ 70) (σ 70) (40 * a + x) (40 * b + z) y) q = x_row σ (3 + b) (va_cpy (σ (3 + a)) (σ (3 + b)) x z y) q := fun q q1 q2 => by
          rw [x_row_ne q1, x_row_ne q2]
        refine hR.rows (hR.1.cp ha hb (show x + y ≤ 40 by omega) (show z + y ≤ 40 by omega) (by rw [hz 1 (by omega) (by omega), hx 1 (by omega)]) (by rw [hz 9 (by omega) (by omega), hx 9 (by omega)]) (by rw [hz 69 (by omega) (by omega), hx 69 (by omega)]) (fun r hr => ?_) x_row_eq) (fun q q1 q2 => by rw [hz q (by omega) (by omega), hx q (by omega)]) (fun q q1 q2 => by rw [hz q (by omega) (by omega), hx q (by omega)]) (fun q q1 q2 => by rw [hz q (by omega) (by omega), hx q (by omega)]) (by rw [hz 84 (by omega) (by omega), hx 84 (by omega)]) (by rw [hz 67 (by omega) (by omega), hx 67 (by omega)]) (by rw [hz 67 (by omega) (by omega), hx 67 (by omega)]) (by rw [hz 67 (by omega) (by omega), hx 67 (by omega)]) ?_
        · rw [hz (3 + r) (by omega) (by omega)]
          by_cases e : r = b
          · subst e
            rw [x_row_eq, if_pos rfl]
          · rw [hx (3 + r) (by omega), if_neg e]
        · unfold RelA
          rw [hz 0 (by omega) (by omega), hz 67 (by omega) (by omega), hz 48 (by omega) (by omega), hz 68 (by omega) (by omega), hx 0 (by omega), hx 67 (by omega), hx 48 (by omega), hx 68 (by omega)]
          exact hR.2.2.2
      · refine bn_f (xb0 (fun q => hB ((q_places hu j n hn').mp q))) ?_
        refine e_S_refuse σ τ 2 in2 _ ?_
        exact ⟨rfl, bey (fun q => hB q.2)⟩
    · refine br_t (xb0 (fun q => hA ((q_places hs i n hn').mp q))) ?_
      refine e_S_refuse σ τ 2 in2 _ ?_
      exact ⟨rfl, bey (fun q => hA q.1)⟩
  · refine e_S_refuse σ τ 5 in5 _ ?_
    refine ⟨rfl, ?_⟩
    refine ev_go 200 [] ?_
    refine e_M_isRow _ τ _ _ ?_
    refine br_f (xb1 (in_row ha)) ?_
    refine e_M_isRow _ τ _ _ ?_
    refine bn_t (xb1 (in_row hb)) ?_
    refine br_f hn ?_
    refine e_M_finds _ τ 5 in5 _ ?_
    exact ⟨rfl, rfl, ⟨_, rfl⟩, hR.find (f := 5) (by decide)⟩
