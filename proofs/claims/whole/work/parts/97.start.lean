/-! THE LAW'S START -/
def p1L (τ : xL) (q j : Nat) (v : Int64) : xL := x_row τ q (vp_updL (τ q) j v)
def j1r (ρ : xR) : xR := x_wr (a1 (x_wr (x_wrr (x_no (ρ) 1) 2 6) 1 0 2) 9 1 1) 0 0 1
def j1s (σ : xS) : xS := p1 (x_row (x_zs 0 (x_zs 0 (x_zs 0 (σ) 1) 2) 9) 9 (fun j => if j < 6 then (-1) else (x_zs 0 (x_zs 0 (x_zs 0 (σ) 1) 2) 9) 9 j)) 1 2 0
def j1t (τ : xL) : xL := x_zs 0 (x_zs 0 (x_zs 0 (τ) 1) 2) 9
def j2r (ρ : xR) : xR := x_wr (a1 (x_wr (x_wrr (x_no (j1r ρ) 10) 11 4) 10 0 11) 16 10 1) 0 1 10
def j2s (σ : xS) : xS := p1 (x_row (x_zs 0 (x_zs 0 (x_zs 0 (j1s σ) 10) 11) 16) 16 (fun j => if j < 4 then (-1) else (x_zs 0 (x_zs 0 (x_zs 0 (j1s σ) 10) 11) 16) 16 j)) 10 2 32
def j2t (τ : xL) : xL := x_zs 0 (x_zs 0 (x_zs 0 (j1t τ) 10) 11) 16
def j3r (ρ : xR) : xR := x_wr (iPr 17 18 (x_no (j2r ρ) 17)) 0 2 17
def j3s (σ : xS) : xS := iPs 17 18 (x_zs 0 (j2s σ) 17)
def j3t (τ : xL) : xL := iPt 18 (x_zs 0 (j2t τ) 17)
def j4r (ρ : xR) : xR := x_wr (x_wr (iPr 24 25 (x_no (x_no (j3r ρ) 23) 24)) 23 0 24) 0 3 23
def j4s (σ : xS) : xS := iPs 24 25 (x_zs 0 (x_zs 0 (j3s σ) 23) 24)
def j4t (τ : xL) : xL := iPt 25 (x_zs 0 (x_zs 0 (j3t τ) 23) 24)
def j5r (ρ : xR) : xR := x_wr (x_no (j4r ρ) 30) 0 4 30
def j5s (σ : xS) : xS := x_zs 0 (j4s σ) 30
def j5t (τ : xL) : xL := x_zs 0 (j4t τ) 30
def j6r (ρ : xR) : xR := x_wr (iFr 44 45 (x_no (x_wr (iDr 39 40 (x_no (x_wr (iGr 31 32 (x_no (j5r ρ) 31)) 0 5 31) 39)) 0 6 39) 44)) 0 7 44
def j6s (σ : xS) : xS := iFs 44 45 (x_zs 0 (iDs 39 40 (x_zs 0 (iGs 31 32 (x_zs 0 (j5s σ) 31)) 39)) 44)
def j6t (τ : xL) : xL := iFt 45 (x_zs 0 (iDt 40 (x_zs 0 (iGt 32 (x_zs 0 (j5t τ) 31)) 39)) 44)
def j7r (ρ : xR) : xR := x_wr (x_no (j6r ρ) 48) 0 12 48
def j7s (σ : xS) : xS := x_zs 0 (p1 (p1 (j6s σ) 0 8 0) 0 11 0) 48
def j7t (τ : xL) : xL := x_zs 0 (p1L (p1L (j6t τ) 0 9 0) 0 10 1) 48
def j8r (ρ : xR) : xR := x_wr (iPr 61 62 (x_no (x_wr (iPr 55 56 (x_no (x_wr (iPr 49 50 (x_no (j7r ρ) 49)) 30 0 49) 55)) 30 1 55) 61)) 30 2 61
def j8s (σ : xS) : xS := iPs 61 62 (x_zs 0 (iPs 55 56 (x_zs 0 (iPs 49 50 (x_zs 0 (j7s σ) 49)) 55)) 61)
def j8t (τ : xL) : xL := iPt 62 (x_zs 0 (iPt 56 (x_zs 0 (iPt 50 (x_zs 0 (j7t τ) 49)) 55)) 61)
set_option maxRecDepth 16384 in
set_option maxHeartbeats 4000000 in
theorem i_S0 (ρ : xR) (σ : xS) (τ : xL) {Q : xQ} (h : ∀ c s, Q none (x_sh.take 67, j8r ρ, c, s) (j8s σ) (j8t τ)) : Ev m_S_init 0 (x_loc [.ref 0] m_S_init.2.2.1) [] (x_sh.take 1, ρ, 0, 0) σ τ Q := by
  refine ev_go 400 [] ?_
  refine i_H1 _ _ _ ?_
  refine i_H10 _ _ _ ?_
  refine i_P17 _ _ _ ?_
  refine i_R23 _ _ _ ?_
  refine ⟨3, rfl, by decide, ?_⟩
  refine i_G31 _ _ _ ?_
  refine i_D39 _ _ _ ?_
  refine i_F44 _ _ _ ?_
  refine ⟨6, rfl, by decide, ?_⟩
  refine br_f (by decide) ?_
  refine i_P49 _ _ _ ?_
  refine ⟨3, 8, rfl, q_in (i := 0) (by decide) (by decide), rfl, ?_⟩
  refine br_f (by decide) ?_
  refine i_P55 _ _ _ ?_
  refine ⟨3, 8, rfl, by rw [show (0 + 1 : Int32) = nI 1 from by decide]; exact q_in (by decide) (by decide), rfl, ?_⟩
  refine br_f (by decide) ?_
  refine i_P61 _ _ _ ?_
  refine ⟨3, 8, rfl, by rw [show (0 + 1 + 1 : Int32) = nI 2 from by decide]; exact q_in (by decide) (by decide), rfl, ?_⟩
  refine br_t (by decide) ?_
  exact h _ _
