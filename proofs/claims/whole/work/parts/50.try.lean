/-- Math.min -/
theorem e_J_min (g : xG) (σ : xS) (τ : xL) (x y : Int32) (Q : xQ) (h : Q (some (.int (if y < x then y else x))) (g.1, g.2.1, 0, 0) σ τ) : Ev m_J_min 0 [.int x, .int y] [] (g.1, g.2.1, 0, 0) σ τ Q := by
  refine ev_go 100 [] ?_
  refine And.intro (fun h1 => ?_) (fun h1 => ?_)
  · rw [if_pos h1] at h
    exact h
  · rw [if_neg h1] at h
    exact h
theorem e_M_in (g : xG) (σ : xS) (τ : xL) (x y z : Int32) (Q : xQ) (h : Q (some (.int (if y ≤ x ∧ x ≤ z then 1 else 0))) (g.1, g.2.1, 0, 0) σ τ) : Ev m_M_in 0 [.int x, .int y, .int z] [] (g.1, g.2.1, 0, 0) σ τ Q := by
  refine ev_go 100 [] ?_
  refine And.intro (fun h1 => ?_) (fun h1 => ?_)
  · sorry
  · sorry
