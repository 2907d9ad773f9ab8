def n1r (ρ : xR) : xR := a1 (a1 (a1 (a1 (ρ) 68 67 1) 69 67 5) 70 67 6) 71 67 7
def n1s (σ : xS) : xS := x_zs 0 (x_zs 0 (x_zs 0 (x_zs 0 (σ) 68) 69) 70) 71
def n1t (τ : xL) : xL := x_zs 0 (x_zs 0 (x_zs 0 (p1L (x_zs 0 (τ) 68) 67 4 1) 69) 70) 71
def n2r (ρ : xR) : xR := a1 (a1 (a1 (a1 (a1 (ρ) 72 67 8) 73 67 9) 74 67 11) 75 67 12) 76 67 13
def n2s (σ : xS) : xS := x_zs 0 (x_zs 0 (x_zs 0 (x_zs 0 (x_zs 0 (σ) 72) 73) 74) 75) 76
def n2t (τ : xL) : xL := x_zs 0 (x_zs 0 (x_zs 0 (x_zs 0 (x_zs 0 (τ) 72) 73) 74) 75) 76
def n3r (ρ : xR) : xR := a1 (a1 (a1 (a1 (a1 (ρ) 77 67 15) 78 67 16) 79 67 21) 80 67 22) 81 67 23
def n3s (σ : xS) : xS := x_zs 0 (x_zs 0 (x_zs 0 (x_zs 0 (x_zs 0 (σ) 77) 78) 79) 80) 81
def n3t (τ : xL) : xL := x_zs 0 (x_zs 0 (x_zs 0 (x_zs 0 (x_zs 0 (τ) 77) 78) 79) 80) 81
def n4r (ρ : xR) : xR := a1 (a1 (a1 (a1 (a1 (ρ) 82 67 24) 83 67 25) 84 67 26) 85 67 27) 86 67 28
def n4s (σ : xS) : xS := x_zs 0 (x_zs 0 (x_zs 0 (x_zs 0 (x_zs 0 (σ) 82) 83) 84) 85) 86
def n4t (τ : xL) : xL := x_zs 0 (x_zs 0 (x_zs 0 (x_zs 0 (x_zs 0 (τ) 82) 83) 84) 85) 86
def n5r (ρ : xR) : xR := a1 (a1 (a1 (a1 (a1 (a1 (ρ) 87 67 29) 88 67 30) 89 67 31) 90 67 32) 91 67 33) 92 67 34
def n5s (σ : xS) : xS := x_zs 0 (x_zs 0 (x_zs 0 (x_zs 0 (x_zs 0 (x_zs 0 (σ) 87) 88) 89) 90) 91) 92
def n5t (τ : xL) : xL := x_zs 0 (x_zs 0 (x_zs 0 (x_zs 0 (x_zs 0 (x_zs 0 (τ) 87) 88) 89) 90) 91) 92
def iMr (ρ : xR) : xR := n5r (n4r (n3r (n2r (n1r ρ))))
def iM0 (σ : xS) : xS := n5s (n4s (n3s (n2s (n1s σ))))
def iMt (τ : xL) : xL := n5t (n4t (n3t (n2t (n1t τ))))
/-- the first n places written -/
def fl (σ : xS) (q n : Nat) (v : Int32) : xS := x_row σ q (fun j => if j < n then v else σ q j)
theorem fl_0 (σ : xS) (q : Nat) (v : Int32) : fl σ q 0 v = σ := by
  unfold fl
  rw [show (fun j => if j < 0 then v else σ q j) = σ q from by funext j; simp]
  exact x_row_same σ q
theorem fl_s (σ : xS) (q i : Nat) (v : Int32) : x_row (fl σ q i v) q (upd (fl σ q i v q) i v) = fl σ q (i + 1) v := by
  unfold fl
  rw [x_row_row, x_row_eq]
  congr 1
  funext j
  by_cases hj : j = i
  · simp [upd, hj]
  · simp only [upd, hj, if_false]
    by_cases h2 : j < i
    · simp [h2, show j < i + 1 by omega]
    · simp [h2, show ¬ j < i + 1 by omega]
def fk (σ : xS) (n : Nat) : xS := x_row σ 84 (fun j => if j % 42 = 0 ∧ j < 42 * n then (-9) else σ 84 j)
theorem fk_0 (σ : xS) : fk σ 0 = σ := by
  unfold fk
  rw [show (fun j => if j % 42 = 0 ∧ j < 42 * 0 then (-9) else σ 84 j) = σ 84 from by funext j; simp]
  exact x_row_same σ 84
theorem fk_s (σ : xS) (i : Nat) : x_row (fk σ i) 84 (upd (fk σ i 84) (42 * i) (-9)) = fk σ (i + 1) := by
  unfold fk
  rw [x_row_row, x_row_eq]
  congr 1
  funext j
  simp only [upd]
  by_cases hj : j = 42 * i
  · rw [if_pos hj, if_pos (by omega)]
  · rw [if_neg hj]
    by_cases h2 : j % 42 = 0 ∧ j < 42 * i
    · rw [if_pos h2, if_pos (by omega)]
    · rw [if_neg h2, if_neg (by omega)]
def iMs (σ : xS) : xS := fk (fl (fl (iM0 σ) 69 6 (-9)) 72 4 (-9)) 3
set_option maxRecDepth 16384 in
set_option maxHeartbeats 2000000 in
theorem seg1 (ρ : xR) (σ : xS) (τ : xL) {Q : xQ} (h : Ev m_M_init 42 [.ref 67, .null] [] (x_sh.take 72, n1r ρ, 4, 292) (n1s σ) (n1t τ) Q) : Ev m_M_init 0 [.ref 67, .null] [] (x_sh.take 68, ρ, 0, 0) σ τ Q := by
  refine ev_go 400 [42] ?_
  refine ⟨6, rfl, by decide, ?_⟩
  refine ⟨6, rfl, by decide, ?_⟩
  refine ⟨240, rfl, by decide, ?_⟩
  refine ⟨40, rfl, by decide, ?_⟩
  exact h
set_option maxRecDepth 16384 in
set_option maxHeartbeats 2000000 in
theorem seg2 (ρ : xR) (σ : xS) (τ : xL) {Q : xQ} (h : Ev m_M_init 82 [.ref 67, .null] [] (x_sh.take 77, n2r ρ, 9, 637) (n2s σ) (n2t τ) Q) : Ev m_M_init 42 [.ref 67, .null] [] (x_sh.take 72, ρ, 4, 292) σ τ Q := by
  refine ev_go 400 [82] ?_
  refine ⟨4, rfl, by decide, ?_⟩
  refine ⟨320, rfl, by decide, ?_⟩
  refine ⟨7, rfl, by decide, ?_⟩
  refine ⟨7, rfl, by decide, ?_⟩
  refine ⟨7, rfl, by decide, ?_⟩
  exact h
set_option maxRecDepth 16384 in
set_option maxHeartbeats 2000000 in
theorem seg3 (ρ : xR) (σ : xS) (τ : xL) {Q : xQ} (h : Ev m_M_init 122 [.ref 67, .null] [] (x_sh.take 82, n3r ρ, 14, 690) (n3s σ) (n3t τ) Q) : Ev m_M_init 82 [.ref 67, .null] [] (x_sh.take 77, ρ, 9, 637) σ τ Q := by
  refine ev_go 400 [122] ?_
  refine ⟨16, rfl, by decide, ?_⟩
  refine ⟨16, rfl, by decide, ?_⟩
  refine ⟨7, rfl, by decide, ?_⟩
  refine ⟨7, rfl, by decide, ?_⟩
  refine ⟨7, rfl, by decide, ?_⟩
  exact h
set_option maxRecDepth 16384 in
set_option maxHeartbeats 2000000 in
theorem seg4 (ρ : xR) (σ : xS) (τ : xL) {Q : xQ} (h : Ev m_M_init 162 [.ref 67, .null] [] (x_sh.take 87, n4r ρ, 19, 862) (n4s σ) (n4t τ) Q) : Ev m_M_init 122 [.ref 67, .null] [] (x_sh.take 82, ρ, 14, 690) σ τ Q := by
  refine ev_go 400 [162] ?_
  refine ⟨16, rfl, by decide, ?_⟩
  refine ⟨16, rfl, by decide, ?_⟩
  refine ⟨126, rfl, by decide, ?_⟩
  refine ⟨7, rfl, by decide, ?_⟩
  refine ⟨7, rfl, by decide, ?_⟩
  exact h
set_option maxRecDepth 16384 in
set_option maxHeartbeats 2000000 in
theorem seg5 (ρ : xR) (σ : xS) (τ : xL) {Q : xQ} (h : Ev m_M_init 215 [.ref 67, .int 0] [] (x_sh.take 93, n5r ρ, 25, 1267) (n5s σ) (n5t τ) Q) : Ev m_M_init 162 [.ref 67, .null] [] (x_sh.take 87, ρ, 19, 862) σ τ Q := by
  refine ev_go 400 [215] ?_
  refine ⟨128, rfl, by decide, ?_⟩
  refine ⟨7, rfl, by decide, ?_⟩
  refine ⟨7, rfl, by decide, ?_⟩
  refine ⟨7, rfl, by decide, ?_⟩
  refine ⟨128, rfl, by decide, ?_⟩
  refine ⟨128, rfl, by decide, ?_⟩
  exact h
/-- fields of the model that its loops read -/
theorem iMr_5 (ρ : xR) : iMr ρ 67 5 = some 69 := rfl
theorem iMr_8 (ρ : xR) : iMr ρ 67 8 = some 72 := rfl
theorem iMr_26 (ρ : xR) : iMr ρ 67 26 = some 84 := rfl
set_option maxRecDepth 16384 in
set_option maxHeartbeats 4000000 in
theorem i_M215 (ρ : xR) (σ : xS) (τ : xL) {Q : xQ} (h : Q none (x_sh.take 93, iMr ρ, 25, 1267) (fk (fl (fl σ 69 6 (-9)) 72 4 (-9)) 3) τ) : Ev m_M_init 215 [.ref 67, .int (nI 0)] [] (x_sh.take 93, iMr ρ, 25, 1267) σ τ Q := by
  have l1 := ev_iter (M := m_M_init) (pc := 215) (st := []) (g := (x_sh.take 93, iMr ρ, 25, 1267)) (Q := Q) 6 (fun i => ([.ref 67, .int (nI i)], fl σ 69 i (-9), τ)) (fun i hi kk => ?_) ?_
  · dsimp only at l1
    rw [fl_0] at l1
    exact l1
  · dsimp only at kk ⊢
    refine ev_go 100 [215] ?_
    refine br_f (nI_ge (b := 6) hi (by decide)) ?_
    refine ⟨6, rfl, q_in hi (by decide), ?_⟩
    rw [cl7 (by omega), fl_s]
    show Ev m_M_init 215 [.ref 67, .int (nI i + 1)] [] _ _ τ Q
    rw [nI_1]
    exact kk
  · dsimp only
    refine ev_go 100 [237] ?_
    refine br_t (nI_le (a := 6) (Nat.le_refl _) (by decide)) ?_
    have l2 := ev_iter (M := m_M_init) (pc := 237) (st := []) (g := (x_sh.take 93, iMr ρ, 25, 1267)) (Q := Q) 4 (fun i => ([.ref 67, .int (nI i)], fl (fl σ 69 6 (-9)) 72 i (-9), τ)) (fun i hi kk => ?_) ?_
    · dsimp only at l2
      rw [fl_0] at l2
      exact l2
    · dsimp only at kk ⊢
      refine ev_go 100 [237] ?_
      refine br_f (nI_ge (b := 4) hi (by decide)) ?_
      refine ⟨4, rfl, q_in hi (by decide), ?_⟩
      rw [cl7 (by omega), fl_s]
      show Ev m_M_init 237 [.ref 67, .int (nI i + 1)] [] _ _ τ Q
      rw [nI_1]
      exact kk
    · dsimp only
      refine ev_go 100 [258] ?_
      refine br_t (nI_le (a := 4) (Nat.le_refl _) (by decide)) ?_
      have l3 := ev_iter (M := m_M_init) (pc := 258) (st := []) (g := (x_sh.take 93, iMr ρ, 25, 1267)) (Q := Q) 3 (fun i => ([.ref 67, .int (nI i)], fk (fl (fl σ 69 6 (-9)) 72 4 (-9)) i, τ)) (fun i hi kk => ?_) ?_
      · dsimp only at l3
        rw [fk_0] at l3
        exact l3
      · dsimp only at kk ⊢
        refine ev_go 100 [258] ?_
        refine br_f (nI_ge (b := 3) hi (by decide)) ?_
        refine ⟨126, rfl, by rw [e42]; exact q_in (by omega) (by decide), ?_⟩
        rw [e42, cl7 (by omega), fk_s]
        show Ev m_M_init 258 [.ref 67, .int (nI i + 1)] [] _ _ τ Q
        rw [nI_1]
        exact kk
      · dsimp only
        refine ev_go 100 [] ?_
        refine br_t (nI_le (a := 3) (Nat.le_refl _) (by decide)) ?_
        exact h
theorem i_M67 (ρ : xR) (σ : xS) (τ : xL) {Q : xQ} (h : ∀ c s, Q none (x_sh.take 93, iMr ρ, c, s) (iMs σ) (iMt τ)) : Ev m_M_init 0 (x_loc [.ref 67] m_M_init.2.2.1) [] (x_sh.take 68, ρ, 0, 0) σ τ Q := by
  refine seg1 ρ σ τ ?_
  refine seg2 _ _ _ ?_
  refine seg3 _ _ _ ?_
  refine seg4 _ _ _ ?_
  refine seg5 _ _ _ ?_
  exact i_M215 ρ _ _ (h _ _)
