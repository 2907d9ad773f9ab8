theorem bn_t {c A B : Prop} (h : ¬ c) (a : A) : (¬ c → A) ∧ (c → B) := ⟨fun _ => a, fun q => absurd q h⟩
theorem bn_f {c A B : Prop} (h : c) (b : B) : (¬ c → A) ∧ (c → B) := ⟨fun q => absurd h q, fun _ => b⟩
theorem xb1 {p : Prop} [Decidable p] (h : p) : ¬ x_b p = 0 := fun q => x_b_0.mp q h
theorem xb0 {p : Prop} [Decidable p] (h : ¬ p) : x_b p = 0 := x_b_f h
/-- naturals in the first n places of a row -/
def emb (n : Nat) (A : Nat → Nat) (s : Nat → Int32) : Nat → Int32 := fun k => if k < n then nI (A k) else s k
theorem emb_at {n k : Nat} {A : Nat → Nat} {s : Nat → Int32} (h : k < n) : emb n A s k = nI (A k) := if_pos h
def nup (A : Nat → Nat) (i v : Nat) : Nat → Nat := fun k => if k = i then v else A k
theorem nup_eq {A : Nat → Nat} {i v : Nat} : nup A i v i = v := if_pos rfl
theorem nup_ne {A : Nat → Nat} {i v k : Nat} (h : k ≠ i) : nup A i v k = A k := if_neg h
theorem emb_upd {n i v : Nat} {A : Nat → Nat} {s : Nat → Int32} (h : i < n) : upd (emb n A s) i (nI v) = emb n (nup A i v) s := by
  funext k
  by_cases hk : k = i
  · subst hk
    simp [upd, emb, nup, h]
  · simp [upd, emb, nup, hk]
theorem emb_self {n : Nat} {A : Nat → Nat} {s : Nat → Int32} (h : ∀ k, k < n → s k = nI (A k)) : emb n A s = s := by
  funext k
  by_cases hk : k < n
  · simp [emb, hk, h k hk]
  · simp [emb, hk]
theorem emb_congr {n : Nat} {A B : Nat → Nat} {s : Nat → Int32} (h : ∀ k, k < n → A k = B k) : emb n A s = emb n B s := by
  funext k
  by_cases hk : k < n
  · simp [emb, hk, h k hk]
  · simp [emb, hk]
theorem e_J_fill (σ : xS) (τ : xL) (q n : Nat) (v : Int32) (hq : x_nth x_sh q = some (16, n)) (hn : n < 2 ^ 31) : Rn m_J_fill [.ref q, .int v] σ τ none (x_row σ q (fun j => if j < n then v else σ q j)) τ := by
  intro Q h
  refine ev_go 100 [5] ?_
  refine ⟨16, n, hq, Or.inl rfl, ?_⟩
  have e0 : x_row σ q (fun j => if j < 0 then v else σ q j) = σ := by
    rw [show (fun j => if j < 0 then v else σ q j) = σ q from by funext j; simp]
    exact x_row_same σ q
  have := ev_iter (M := m_J_fill) (pc := 5) (st := []) (g := x_g) (Q := Q) n (fun i => ([.ref q, .int v, .int (nI i), .int (nI n)], x_row σ q (fun j => if j < i then v else σ q j), τ)) (fun i hi k => ?_) ?_
  · dsimp only at this
    rw [e0] at this
    exact this
  · dsimp only at k ⊢
    refine ev_go 100 [5] ?_
    refine br_f (nI_ge hi hn) ?_
    refine ⟨n, hq, q_in hi hn, ?_⟩
    show Ev m_J_fill 5 [.ref q, .int v, .int (nI i + 1), .int (nI n)] [] x_g (x_row (x_row σ q (fun j => if j < i then v else σ q j)) q (upd (x_row σ q (fun j => if j < i then v else σ q j) q) (nI i).toNatClampNeg v)) τ Q
    rw [nI_1, nI_clamp (by omega), x_row_row, x_row_eq, show upd (fun j => if j < i then v else σ q j) i v = (fun j => if j < i + 1 then v else σ q j) from ?_]
    · exact k
    · funext j
      by_cases hj : j = i
      · simp [upd, hj]
      · simp only [upd, hj, if_false]
        by_cases h2 : j < i
        · simp [h2, show j < i + 1 by omega]
        · simp [h2, show ¬ j < i + 1 by omega]
  · dsimp only
    refine ev_go 100 [5] ?_
    refine br_t (nI_le (Nat.le_refl n) hn) ?_
    exact h
theorem sh_rows : ∀ k, k < 6 → x_nth x_sh (3 + k) = some (16, 40) := by decide +kernel
theorem rf_rows : ∀ k, k < 6 → x_rf 2 k = some (3 + k) := by decide +kernel
theorem sh_texts : ∀ k, k < 4 → x_nth x_sh (12 + k) = some (16, 80) := by decide +kernel
theorem rf_texts : ∀ k, k < 4 → x_rf 11 k = some (12 + k) := by decide +kernel
theorem in_lt {x : Int32} {n : Nat} (h : vp_in x n) : x.toNatClampNeg < n := Nat.not_le.mp fun q => h (Or.inr q)
/-! shelves: 1 the rows, 10 the texts -/
theorem e_H_isNumber1 (σ : xS) (τ : xL) (r : Int32) : Rn m_H_isNumber [.ref 1, .int r] σ τ (some (.int (x_b (¬ r < 0 ∧ ¬ nI 6 ≤ r)))) σ τ := by
  intro Q h
  refine ev_go 100 [] ?_
  refine And.intro (fun h1 => ?_) (fun h1 => ?_)
  · rw [x_b_f (fun q => q.1 h1)] at h
    exact ⟨Or.inl rfl, h⟩
  · refine ⟨16, 6, rfl, Or.inl rfl, ?_⟩
    refine And.intro (fun h2 => ?_) (fun h2 => ?_)
    · rw [x_b_f (fun q => q.2 h2)] at h
      exact ⟨Or.inl rfl, h⟩
    · rw [x_b_t ⟨h1, h2⟩] at h
      exact ⟨Or.inr rfl, h⟩
theorem e_H_isNumber10 (σ : xS) (τ : xL) (r : Int32) : Rn m_H_isNumber [.ref 10, .int r] σ τ (some (.int (x_b (¬ r < 0 ∧ ¬ nI 4 ≤ r)))) σ τ := by
  intro Q h
  refine ev_go 100 [] ?_
  refine And.intro (fun h1 => ?_) (fun h1 => ?_)
  · rw [x_b_f (fun q => q.1 h1)] at h
    exact ⟨Or.inl rfl, h⟩
  · refine ⟨16, 4, rfl, Or.inl rfl, ?_⟩
    refine And.intro (fun h2 => ?_) (fun h2 => ?_)
    · rw [x_b_f (fun q => q.2 h2)] at h
      exact ⟨Or.inl rfl, h⟩
    · rw [x_b_t ⟨h1, h2⟩] at h
      exact ⟨Or.inr rfl, h⟩
theorem e_H_isThere1 (σ : xS) (τ : xL) (r : Int32) (hr : vp_in r 6) : Rn m_H_isThere [.ref 1, .int r] σ τ (some (.int (x_b (¬ σ 9 r.toNatClampNeg < 0)))) σ τ := by
  intro Q h
  refine ev_go 100 [] ?_
  refine ⟨6, rfl, hr, ?_⟩
  refine And.intro (fun h1 => ?_) (fun h1 => ?_)
  · rw [x_b_f (fun q => q h1)] at h
    exact ⟨Or.inl rfl, h⟩
  · rw [x_b_t h1] at h
    exact ⟨Or.inr rfl, h⟩
theorem e_H_isThere10 (σ : xS) (τ : xL) (r : Int32) (hr : vp_in r 4) : Rn m_H_isThere [.ref 10, .int r] σ τ (some (.int (x_b (¬ σ 16 r.toNatClampNeg < 0)))) σ τ := by
  intro Q h
  refine ev_go 100 [] ?_
  refine ⟨4, rfl, hr, ?_⟩
  refine And.intro (fun h1 => ?_) (fun h1 => ?_)
  · rw [x_b_f (fun q => q h1)] at h
    exact ⟨Or.inl rfl, h⟩
  · rw [x_b_t h1] at h
    exact ⟨Or.inr rfl, h⟩
theorem e_H_hasPlace1 (σ : xS) (τ : xL) (r i : Int32) (hr : vp_in r 6) : Rn m_H_hasPlace [.ref 1, .int r, .int i] σ τ (some (.int (x_b (¬ i < 0 ∧ ¬ σ 9 r.toNatClampNeg ≤ i)))) σ τ := by
  intro Q h
  refine ev_go 100 [] ?_
  refine And.intro (fun h1 => ?_) (fun h1 => ?_)
  · rw [x_b_f (fun q => q.1 h1)] at h
    exact ⟨Or.inl rfl, h⟩
  · refine ⟨6, rfl, hr, ?_⟩
    refine And.intro (fun h2 => ?_) (fun h2 => ?_)
    · rw [x_b_f (fun q => q.2 h2)] at h
      exact ⟨Or.inl rfl, h⟩
    · rw [x_b_t ⟨h1, h2⟩] at h
      exact ⟨Or.inr rfl, h⟩
theorem e_H_hasPlace10 (σ : xS) (τ : xL) (r i : Int32) (hr : vp_in r 4) : Rn m_H_hasPlace [.ref 10, .int r, .int i] σ τ (some (.int (x_b (¬ i < 0 ∧ ¬ σ 16 r.toNatClampNeg ≤ i)))) σ τ := by
  intro Q h
  refine ev_go 100 [] ?_
  refine And.intro (fun h1 => ?_) (fun h1 => ?_)
  · rw [x_b_f (fun q => q.1 h1)] at h
    exact ⟨Or.inl rfl, h⟩
  · refine ⟨4, rfl, hr, ?_⟩
    refine And.intro (fun h2 => ?_) (fun h2 => ?_)
    · rw [x_b_f (fun q => q.2 h2)] at h
      exact ⟨Or.inl rfl, h⟩
    · rw [x_b_t ⟨h1, h2⟩] at h
      exact ⟨Or.inr rfl, h⟩
theorem e_H_make1 (σ : xS) (τ : xL) (r n : Int32) (hr : vp_in r 6) (hb : σ 1 2 = 0) : Rn m_H_make [.ref 1, .int r, .int n] σ τ none (x_row (x_row σ (3 + r.toNatClampNeg) (fun j => if j < 40 then 0 else σ (3 + r.toNatClampNeg) j)) 9 (upd (x_row σ (3 + r.toNatClampNeg) (fun j => if j < 40 then 0 else σ (3 + r.toNatClampNeg) j) 9) r.toNatClampNeg n)) τ := by
  intro Q h
  refine ev_go 100 [] ?_
  refine ⟨18, 6, 3 + r.toNatClampNeg, rfl, Or.inl rfl, hr, rf_rows _ (in_lt hr), ?_⟩
  refine e_J_fill σ τ (3 + r.toNatClampNeg) 40 (σ 1 2) (sh_rows _ (in_lt hr)) (by decide) _ ?_
  rw [hb]
  refine ⟨6, rfl, hr, ?_⟩
  exact h
theorem e_H_make10 (σ : xS) (τ : xL) (r n : Int32) (hr : vp_in r 4) (hb : σ 10 2 = 32) : Rn m_H_make [.ref 10, .int r, .int n] σ τ none (x_row (x_row σ (12 + r.toNatClampNeg) (fun j => if j < 80 then 32 else σ (12 + r.toNatClampNeg) j)) 16 (upd (x_row σ (12 + r.toNatClampNeg) (fun j => if j < 80 then 32 else σ (12 + r.toNatClampNeg) j) 16) r.toNatClampNeg n)) τ := by
  intro Q h
  refine ev_go 100 [] ?_
  refine ⟨18, 4, 12 + r.toNatClampNeg, rfl, Or.inl rfl, hr, rf_texts _ (in_lt hr), ?_⟩
  refine e_J_fill σ τ (12 + r.toNatClampNeg) 80 (σ 10 2) (sh_texts _ (in_lt hr)) (by decide) _ ?_
  rw [hb]
  refine ⟨4, rfl, hr, ?_⟩
  exact h
/-- a finding, in the class and in the model -/
def c_ref (σ : xS) (f : Int32) : xS := x_row (x_row σ 0 (upd (σ 0) 11 f)) 48 (upd (σ 48) f.toNatClampNeg (σ 48 f.toNatClampNeg + 1))
def m_fnd (σ : xS) (f : Int32) : xS := x_row (x_row σ 67 (upd (σ 67) 0 f)) 68 (upd (σ 68) f.toNatClampNeg (σ 68 f.toNatClampNeg + 1))
theorem e_S_refuse (σ : xS) (τ : xL) (f : Int32) (hf : vp_in f 6) : Rn m_S_refuse [.ref 0, .int f] σ τ (some (.int (-3))) (c_ref σ f) τ := by
  intro Q h
  refine ev_go 100 [] ?_
  refine ⟨6, rfl, hf, ?_⟩
  refine ⟨6, rfl, hf, ?_⟩
  exact h
theorem e_M_finds (σ : xS) (τ : xL) (f : Int32) (hf : vp_in f 6) : Rn m_M_finds [.ref 67, .int f] σ τ (some (.int (-3))) (m_fnd σ f) τ := by
  intro Q h
  refine ev_go 100 [] ?_
  refine ⟨6, rfl, hf, ?_⟩
  refine ⟨6, rfl, hf, ?_⟩
  exact h
theorem e_M_tells (σ : xS) (τ : xL) (v a : Int32) : Rn m_M_tells [.ref 67, .int v, .int a] σ τ (some (.int a)) (x_row σ 67 (upd (σ 67) 2 v)) τ := by
  intro Q h
  refine ev_go 100 [] ?_
  exact h
theorem e_M_in (σ : xS) (τ : xL) (x y z : Int32) : Rn m_M_in [.int x, .int y, .int z] σ τ (some (.int (x_b (¬ x < y ∧ ¬ z < x)))) σ τ := by
  intro Q h
  refine ev_go 100 [] ?_
  refine And.intro (fun h1 => ?_) (fun h1 => And.intro (fun h2 => ?_) (fun h2 => ?_))
  · rw [x_b_f (fun q => q.1 h1)] at h
    exact ⟨Or.inl rfl, h⟩
  · rw [x_b_f (fun q => q.2 h2)] at h
    exact ⟨Or.inl rfl, h⟩
  · rw [x_b_t ⟨h1, h2⟩] at h
    exact ⟨Or.inr rfl, h⟩
theorem e_M_isRow (σ : xS) (τ : xL) (r : Int32) : Rn m_M_isRow [.int r] σ τ (some (.int (x_b (¬ r < 0 ∧ ¬ 5 < r)))) σ τ := by
  intro Q h
  refine ev_go 100 [] ?_
  refine e_M_in σ τ r 0 5 _ ?_
  exact ⟨x_b_01, h⟩
theorem e_M_isText (σ : xS) (τ : xL) (r : Int32) : Rn m_M_isText [.int r] σ τ (some (.int (x_b (¬ r < 0 ∧ ¬ 3 < r)))) σ τ := by
  intro Q h
  refine ev_go 100 [] ?_
  refine e_M_in σ τ r 0 3 _ ?_
  exact ⟨x_b_01, h⟩
