/-! PARTS OF A WHOLE: Euclid's steps -/
def es : Nat → Nat × Nat → Nat × Nat
  | 0, p => p
  | k + 1, p => ((es k p).2, (es k p).1 % (es k p).2)
theorem es_b {p : Nat × Nat} {B : Nat} (h : p.1 < B ∧ p.2 < B) : ∀ k, (es k p).1 < B ∧ (es k p).2 < B
  | 0 => h
  | k + 1 => by
    have := es_b h k
    exact ⟨this.2, Nat.lt_of_le_of_lt (Nat.mod_le _ _) this.1⟩
theorem half_mod {a b : Nat} (hb : 0 < b) (hab : b < a) : 2 * (a % b) ≤ a := by
  have h1 := Nat.mod_lt a hb
  have h2 := Nat.div_add_mod a b
  have h3 : 1 ≤ a / b := (Nat.le_div_iff_mul_le hb).mpr (by omega)
  have h4 : b * 1 ≤ b * (a / b) := Nat.mul_le_mul_left b h3
  omega
theorem es_half (p : Nat × Nat) : ∀ k, (∃ j, j ≤ 2 * k ∧ (es j p).2 = 0) ∨ (es (2 * k) p).2 * 2 ^ k ≤ p.2
  | 0 => Or.inr (by simp [es])
  | k + 1 => by
    rcases es_half p k with ⟨j, h1, h2⟩ | h
    · exact Or.inl ⟨j, by omega, h2⟩
    · by_cases z0 : (es (2 * k) p).2 = 0
      · exact Or.inl ⟨2 * k, by omega, z0⟩
      · by_cases z1 : (es (2 * k + 1) p).2 = 0
        · exact Or.inl ⟨2 * k + 1, by omega, z1⟩
        · right
          show (es (2 * k + 1 + 1) p).2 * 2 ^ (k + 1) ≤ p.2
          have e1 : (es (2 * k + 1 + 1) p).2 = (es (2 * k) p).2 % (es (2 * k + 1) p).2 := rfl
          have e2 : (es (2 * k + 1) p).2 = (es (2 * k) p).1 % (es (2 * k) p).2 := rfl
          have h3 : (es (2 * k + 1) p).2 < (es (2 * k) p).2 := by
            rw [e2]
            exact Nat.mod_lt _ (Nat.pos_of_ne_zero z0)
          have h4 := half_mod (Nat.pos_of_ne_zero z1) h3
          rw [e1, Nat.pow_succ]
          have h5 := Nat.mul_le_mul_right (2 ^ k) h4
          rw [Nat.mul_comm 2, Nat.mul_assoc] at h5
          rw [Nat.mul_comm (2 ^ k) 2]
          omega
theorem es_end {p : Nat × Nat} (h : p.2 < 2 ^ 31) : ∃ K, K ≤ 62 ∧ (es K p).2 = 0 ∧ ∀ k, k < K → ¬ (es k p).2 = 0 := by
  have : ∃ j, j ≤ 62 ∧ (es j p).2 = 0 := by
    rcases es_half p 31 with h1 | h1
    · exact h1
    · refine ⟨62, Nat.le_refl _, ?_⟩
      have h2 : (es (2 * 31) p).2 * 2 ^ 31 < 1 * 2 ^ 31 := by omega
      have := Nat.lt_of_mul_lt_mul_right h2
      show (es (2 * 31) p).2 = 0
      omega
  obtain ⟨j, h1, h2⟩ := this
  obtain ⟨u, a, b, c⟩ := least (p := fun k => (es k p).2 = 0) j h2
  exact ⟨u, by omega, b, c⟩
theorem es_pos {p : Nat × Nat} (h : 0 < p.2) : ∀ k, 0 < (es k p).1 ∨ 0 < (es k p).2
  | 0 => Or.inr h
  | k + 1 => by
    rcases Nat.eq_zero_or_pos (es k p).2 with z | z
    · rcases es_pos h k with h1 | h1
      · right
        show 0 < (es k p).1 % (es k p).2
        rw [z, Nat.mod_zero]
        exact h1
      · omega
    · exact Or.inl z
theorem lg0 {y : Nat} (h : y < 2 ^ 31) : lg_cmp (lN y) 0 = 0 ↔ y = 0 := by
  have h0 : lN y = 0 ↔ y = 0 := lN_eq (b := 0) h (by decide)
  have h1 : lN y > 0 ↔ 0 < y := lN_lt (a := 0) (by decide) h
  unfold lg_cmp
  by_cases hy : y = 0
  · rw [if_neg (fun z => by have := h1.mp z; omega), if_pos (h0.mpr hy)]
    simp [hy]
  · rw [if_pos (h1.mpr (Nat.pos_of_ne_zero hy))]
    simp [hy]
theorem lgle {y : Nat} (h : y < 2 ^ 31) (hy : 0 < y) : ¬ lg_cmp (lN y) 0 ≤ 0 := by
  unfold lg_cmp
  rw [if_pos (show lN y > 0 from (lN_lt (a := 0) (by decide) h).mpr hy)]
  decide
def lq (p : Nat × Nat) : Nat → Value
  | 0 => .null
  | k + 1 => .long (lN (es (k + 1) p).2)
def c_frac (τ : xL) (a b : Int64) : xL := x_row (x_row τ 0 (vp_updL (τ 0) 9 a)) 0 (vp_updL (vp_updL (τ 0) 9 a) 10 b)
def m_frac (τ : xL) (a b : Int64) : xL := x_row (x_row τ 67 (vp_updL (τ 67) 3 a)) 67 (vp_updL (vp_updL (τ 67) 3 a) 4 b)
theorem lNne {y : Nat} (h : y < 2 ^ 31) (h0 : ¬ y = 0) : ¬ lN y = 0 := fun z => h0 ((lN_eq (b := 0) h (by decide)).mp z)
theorem e_S_tellFraction (σ : xS) (τ : xL) {u w K : Nat} (hu : u < 2 ^ 31) (hw : w < 2 ^ 31) (hw0 : 0 < w) (hK : K ≤ 62) (h0 : (es K (u, w)).2 = 0) (h1 : ∀ k, k < K → ¬ (es k (u, w)).2 = 0) {vu vw : Int64} (hvu : vu = lN u) (hvw : vw = lN w) : Rn m_S_tellFraction [.ref 0, .long vu, .long vw] σ τ none σ (c_frac τ (lN (u / (es K (u, w)).1)) (lN (w / (es K (u, w)).1))) := by
  intro Q h
  subst hvu hvw
  have hb := es_b (p := (u, w)) (B := 2 ^ 31) ⟨hu, hw⟩
  refine ev_go 100 [9] ?_
  refine ev_iter (M := m_S_tellFraction) (pc := 9) (st := []) (g := x_g) (Q := Q) K (fun k => ([.ref 0, .long (lN u), .null, .long (lN w), .null, .long (lN (es k (u, w)).1), .null, .long (lN (es k (u, w)).2), .null, .int (nI k), lq (u, w) k, .null], σ, τ)) (fun k hk kk => ?_) ?_
  · dsimp only at kk ⊢
    refine ev_go 100 [9] ?_
    refine br_f (nI_ge (b := 64) (by omega) (by decide)) ?_
    refine br_f (fun z => h1 k hk ((lg0 (hb k).2).mp z)) ?_
    refine ⟨lNne (hb k).2 (h1 k hk), ?_⟩
    show Ev m_S_tellFraction 9 [.ref 0, .long (lN u), .null, .long (lN w), .null, .long (lN (es k (u, w)).2), .null, .long (lN (es k (u, w)).1 - lN (es k (u, w)).1 / lN (es k (u, w)).2 * lN (es k (u, w)).2), .null, .int (nI k + 1), .long (lN (es k (u, w)).1 - lN (es k (u, w)).1 / lN (es k (u, w)).2 * lN (es k (u, w)).2), .null] [] x_g σ τ Q
    rw [nI_1, pk_lRem (Nat.lt_trans (hb k).1 (by decide)) (Nat.pos_of_ne_zero (h1 k hk)) (Nat.lt_trans (hb k).2 (by decide))]
    exact kk
  · dsimp only
    have hg : 0 < (es K (u, w)).1 := by
      rcases es_pos (p := (u, w)) hw0 K with z | z
      · exact z
      · omega
    have fin := h
    rw [h0]
    refine ev_go 100 [] ?_
    refine br_f (nI_ge (b := 64) (by omega) (by decide)) ?_
    refine br_t ((lg0 (y := 0) (by decide)).mpr rfl) ?_
    refine br_f (lgle (hb K).1 hg) ?_
    refine ⟨lNne (hb K).1 (by omega), ?_⟩
    refine ⟨lNne (hb K).1 (by omega), ?_⟩
    rw [pk_lDiv (Nat.lt_trans hu (by decide)) hg (Nat.lt_trans (hb K).1 (by decide)), pk_lDiv (Nat.lt_trans hw (by decide)) hg (Nat.lt_trans (hb K).1 (by decide))]
    exact fin
theorem e_M_parts (σ : xS) (τ : xL) {u w K : Nat} (hu : u < 2 ^ 31) (hw : w < 2 ^ 31) (hw0 : 0 < w) (h0 : (es K (u, w)).2 = 0) (h1 : ∀ k, k < K → ¬ (es k (u, w)).2 = 0) {vu vw : Int64} (hvu : vu = lN u) (hvw : vw = lN w) : Rn m_M_parts [.ref 67, .long vu, .long vw] σ τ (some (.int 1)) σ (m_frac τ (lN (u / (es K (u, w)).1)) (lN (w / (es K (u, w)).1))) := by
  intro Q h
  subst hvu hvw
  have hb := es_b (p := (u, w)) (B := 2 ^ 31) ⟨hu, hw⟩
  refine ev_go 100 [6] ?_
  refine ev_iter (M := m_M_parts) (pc := 6) (st := []) (g := x_g) (Q := Q) K (fun k => ([.ref 67, .long (lN u), .null, .long (lN w), .null, .long (lN (es k (u, w)).1), .null, .long (lN (es k (u, w)).2), .null, lq (u, w) k, .null], σ, τ)) (fun k hk kk => ?_) ?_
  · dsimp only at kk ⊢
    refine ev_go 100 [6] ?_
    refine br_f (fun z => h1 k hk ((lg0 (hb k).2).mp z)) ?_
    refine ⟨lNne (hb k).2 (h1 k hk), ?_⟩
    show Ev m_M_parts 6 [.ref 67, .long (lN u), .null, .long (lN w), .null, .long (lN (es k (u, w)).2), .null, .long (lN (es k (u, w)).1 - lN (es k (u, w)).1 / lN (es k (u, w)).2 * lN (es k (u, w)).2), .null, .long (lN (es k (u, w)).1 - lN (es k (u, w)).1 / lN (es k (u, w)).2 * lN (es k (u, w)).2), .null] [] x_g σ τ Q
    rw [pk_lRem (Nat.lt_trans (hb k).1 (by decide)) (Nat.pos_of_ne_zero (h1 k hk)) (Nat.lt_trans (hb k).2 (by decide))]
    exact kk
  · dsimp only
    have hg : 0 < (es K (u, w)).1 := by
      rcases es_pos (p := (u, w)) hw0 K with z | z
      · exact z
      · omega
    rw [h0]
    refine ev_go 100 [] ?_
    refine br_t ((lg0 (y := 0) (by decide)).mpr rfl) ?_
    refine ⟨lNne (hb K).1 (by omega), ?_⟩
    refine ⟨lNne (hb K).1 (by omega), ?_⟩
    rw [pk_lDiv (Nat.lt_trans hu (by decide)) hg (Nat.lt_trans (hb K).1 (by decide)), pk_lDiv (Nat.lt_trans hw (by decide)) hg (Nat.lt_trans (hb K).1 (by decide))]
    exact h
theorem Rel.frac {σ : xS} {τ : xL} (h : Rel σ τ) (a b : Int64) : Rel σ (m_frac (c_frac τ a b) a b) := by
  obtain ⟨h1, h2, h3, h4, h5, h6, h7, h8⟩ := h
  refine ⟨h1, h2, h3, h4, h5, h6, ?_, ?_⟩
  · simp [m_frac, c_frac, x_row, vp_updL]
  · simp [m_frac, c_frac, x_row, vp_updL]
theorem pair_orders : Pair m_S_orders m_M_orders [] := by
  intro σ τ hR
  obtain ⟨P, hC, hM, hV, hK⟩ := hR.2.2.1
  have h7 := hV.1
  have hp := Nat.one_le_two_pow (n := pn P)
  have hb := wy_b31 (e := edP P) (n := pn P) (S := 0) h7 (by omega)
  obtain ⟨K, k1, k2, k3⟩ := es_end (p := (wy (edP P) (pn P) 0, 1)) (show 1 < 2 ^ 31 by decide)
  refine ev_go 100 [] ?_
  refine e_G_takeAll σ τ hC hV _ (fun σ1 h1 => ?_)
  refine e_G_countOnward σ1 τ h7 (e := edP P) ⟨h1.2.1, h1.2.2⟩ _ (fun σ2 h2 => ?_)
  refine ⟨128, rfl, q_in (i := 0) (by decide) (by decide), ?_⟩
  refine e_S_tellFraction σ2 τ hb (w := 1) (by decide) (by decide) k1 k2 k3 (by rw [show σ2 34 (0 : Int32).toNatClampNeg = nI (wy (edP P) (pn P) 0) from h2.2 0 (by omega), nI_l hb]) rfl _ ?_
  refine ⟨rfl, ?_⟩
  have hM2 := (hM.ag h1.1 (by decide)).ag h2.1 (by decide)
  refine ev_go 100 [] ?_
  refine e_M_findNow σ2 _ hM2 hV _ (fun σ3 h3 => ?_)
  refine e_M_countOrders σ3 _ h7 (hM2.ag h3.1 (by decide)).1 h3.2.1 _ (fun σ4 h4 => ?_)
  refine e_M_parts σ4 _ hb (w := 1) (by decide) (by decide) k2 k3 (nI_l hb) rfl _ ?_
  exact ⟨rfl, rfl, ⟨_, rfl⟩, ((((hR.ag h1.1 (by decide)).ag h2.1 (by decide)).ag h3.1 (by decide)).ag h4.1 (by decide)).frac _ _⟩
