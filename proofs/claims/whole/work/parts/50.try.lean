theorem e_M_in (σ : xS) (τ : xL) (x y z : Int32) : Rn m_M_in [.int x, .int y, .int z] σ τ (some (.int (x_b (y ≤ x ∧ x ≤ z)))) σ τ := by
  intro Q h
  refine ev_go 100 [] ?_
  refine And.intro (fun h1 => ?_) (fun h1 => And.intro (fun h2 => ?_) (fun h2 => ?_))
  · rw [x_b_f (fun q => absurd q.1 (Int32.not_le.mpr h1))] at h
    exact ⟨Or.inl rfl, h⟩
  · rw [x_b_f (fun q => absurd q.2 (Int32.not_le.mpr h2))] at h
    exact ⟨Or.inl rfl, h⟩
  · rw [x_b_t ⟨Int32.not_lt.mp h1, Int32.not_lt.mp h2⟩] at h
    exact ⟨Or.inr rfl, h⟩
theorem e_M_finds (σ : xS) (τ : xL) (f : Int32) (hf : vp_in f 6) : Rn m_M_finds [.ref 67, .int f] σ τ (some (.int (-3))) (x_row (x_row σ 67 (upd (σ 67) 0 f)) 68 (upd (σ 68) f.toNatClampNeg (σ 68 f.toNatClampNeg + 1))) τ := by
  intro Q h
  refine ev_go 100 [] ?_
  refine ⟨6, rfl, hf, ?_⟩
  refine ⟨6, rfl, hf, ?_⟩
  exact h
theorem e_M_isRow (σ : xS) (τ : xL) (r : Int32) : Rn m_M_isRow [.int r] σ τ (some (.int (x_b (0 ≤ r ∧ r ≤ 5)))) σ τ := by
  intro Q h
  refine ev_go 100 [] ?_
  refine e_M_in σ τ r 0 5 _ ?_
  exact ⟨x_b_01, h⟩
theorem e_J_fill (σ : xS) (τ : xL) (q n : Nat) (v : Int32) (hq : x_nth x_sh q = some (16, n)) (hn : n < 2 ^ 31) : Rn m_J_fill [.ref q, .int v] σ τ none (x_row σ q (fun j => if j < n then v else σ q j)) τ := by
  intro Q h
  refine ev_go 100 [5] ?_
  refine ⟨16, n, hq, Or.inl rfl, ?_⟩
  have e0 : x_row σ q (fun j => if j < 0 then v else σ q j) = σ := by
    rw [show (fun j => if j < 0 then v else σ q j) = σ q from by funext j; simp]
    exact x_row_same σ q
  have := ev_iter (M := m_J_fill) (pc := 5) (st := []) (g := x_g) (Q := Q) n (fun i => ([.ref q, .int v, .int (nI i), .int (nI n)], x_row σ q (fun j => if j < i then v else σ q j), τ)) (fun i hi k => ?_) ?_
  · dsimp only at this
    rw [e0] at this
    exact this
  · dsimp only at k ⊢
    refine ev_go 100 [5] ?_
    refine And.intro (fun h1 => absurd h1 (nI_ge hi hn)) (fun _ => ?_)
    refine ⟨n, hq, q_in hi hn, ?_⟩
    sorry
  · dsimp only
    refine ev_go 100 [5] ?_
    refine And.intro (fun _ => ?_) (fun h1 => absurd (nI_le (Nat.le_refl n) hn) h1)
    exact h
