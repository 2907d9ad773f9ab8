/-! THE CONSTRUCTORS -/
theorem e_J_fillg (g : xG) (σ : xS) (τ : xL) (q n : Nat) (v : Int32) (hq : x_nth g.1 q = some (16, n)) (hn : n < 2 ^ 31) {Q : xQ} (h : Q none g (x_row σ q (fun j => if j < n then v else σ q j)) τ) : Ev m_J_fill 0 (x_loc [.ref q, .int v] m_J_fill.2.2.1) [] g σ τ Q := by
  refine ev_go 100 [5] ?_
  refine ⟨16, n, hq, Or.inl rfl, ?_⟩
  have e0 : x_row σ q (fun j => if j < 0 then v else σ q j) = σ := by
    rw [show (fun j => if j < 0 then v else σ q j) = σ q from by funext j; simp]
    exact x_row_same σ q
  have := ev_iter (M := m_J_fill) (pc := 5) (st := []) (g := g) (Q := Q) n (fun i => ([.ref q, .int v, .int (nI i), .int (nI n)], x_row σ q (fun j => if j < i then v else σ q j), τ)) (fun i hi k => ?_) ?_
  · dsimp only at this
    rw [e0] at this
    exact this
  · dsimp only at k ⊢
    refine ev_go 100 [5] ?_
    refine br_f (nI_ge hi hn) ?_
    refine ⟨n, hq, q_in hi hn, ?_⟩
    show Ev m_J_fill 5 [.ref q, .int v, .int (nI i + 1), .int (nI n)] [] g (x_row (x_row σ q (fun j => if j < i then v else σ q j)) q (upd (x_row σ q (fun j => if j < i then v else σ q j) q) (nI i).toNatClampNeg v)) τ Q
    rw [nI_1, nI_clamp (by omega), x_row_row, x_row_eq, show upd (fun j => if j < i then v else σ q j) i v = (fun j => if j < i + 1 then v else σ q j) from ?_]
    · exact k
    · funext j
      by_cases hj : j = i
      · simp [upd, hj]
      · simp only [upd, hj, if_false]
        by_cases h2 : j < i
        · simp [h2, show j < i + 1 by omega]
        · simp [h2, show ¬ j < i + 1 by omega]
  · dsimp only
    refine ev_go 100 [5] ?_
    refine br_t (nI_le (Nat.le_refl n) hn) ?_
    exact h
/-- one int written -/
def p1 (σ : xS) (q j : Nat) (v : Int32) : xS := x_row σ q (upd (σ q) j v)
/-- one array made and put into a field -/
def a1 (ρ : xR) (n q j : Nat) : xR := x_wr (x_no ρ n) q j n
def iPr (q n : Nat) (ρ : xR) : xR := a1 (a1 (a1 (a1 (a1 (ρ) n q 3) (n + 1) q 4) (n + 2) q 5) (n + 3) q 6) (n + 4) q 7
def iPs (q n : Nat) (σ : xS) : xS := x_zs 0 (x_zs 0 (x_zs 0 (x_zs 0 (x_zs 0 (p1 (p1 (p1 (σ) q 0 0) q 1 0) q 2 0) n) (n + 1)) (n + 2)) (n + 3)) (n + 4)
def iPt (n : Nat) (τ : xL) : xL := x_zs 0 (x_zs 0 (x_zs 0 (x_zs 0 (x_zs 0 (τ) n) (n + 1)) (n + 2)) (n + 3)) (n + 4)
def iGr (q n : Nat) (ρ : xR) : xR := a1 (a1 (a1 (a1 (a1 (a1 (a1 (ρ) n q 2) (n + 1) q 3) (n + 2) q 4) (n + 3) q 5) (n + 4) q 6) (n + 5) q 7) (n + 6) q 8
def iGs (q n : Nat) (σ : xS) : xS := x_zs 0 (x_zs 0 (x_zs 0 (x_zs 0 (x_zs 0 (x_zs 0 (x_zs 0 (p1 (p1 (σ) q 0 0) q 1 0) n) (n + 1)) (n + 2)) (n + 3)) (n + 4)) (n + 5)) (n + 6)
def iGt (n : Nat) (τ : xL) : xL := x_zs 0 (x_zs 0 (x_zs 0 (x_zs 0 (x_zs 0 (x_zs 0 (x_zs 0 (τ) n) (n + 1)) (n + 2)) (n + 3)) (n + 4)) (n + 5)) (n + 6)
def iDr (q n : Nat) (ρ : xR) : xR := a1 (a1 (a1 (a1 (ρ) n q 1) (n + 1) q 2) (n + 2) q 3) (n + 3) q 4
def iDs (q n : Nat) (σ : xS) : xS := x_zs 0 (x_zs 0 (x_zs 0 (x_zs 0 (p1 (σ) q 0 0) n) (n + 1)) (n + 2)) (n + 3)
def iDt (n : Nat) (τ : xL) : xL := x_zs 0 (x_zs 0 (x_zs 0 (x_zs 0 (τ) n) (n + 1)) (n + 2)) (n + 3)
def iFr (q n : Nat) (ρ : xR) : xR := a1 (a1 (a1 (ρ) n q 1) (n + 1) q 2) (n + 2) q 3
def iFs (q n : Nat) (σ : xS) : xS := x_zs 0 (x_zs 0 (x_zs 0 (p1 (σ) q 0 0) n) (n + 1)) (n + 2)
def iFt (n : Nat) (τ : xL) : xL := x_zs 0 (x_zs 0 (x_zs 0 (τ) n) (n + 1)) (n + 2)
theorem i_P17 (ρ : xR) (σ : xS) (τ : xL) {Q : xQ} (h : Q none (x_sh.take 23, iPr 17 18 ρ, 5, 53) (iPs 17 18 σ) (iPt 18 τ)) : Ev m_P_init 0 (x_loc [.ref 17] m_P_init.2.2.1) [] (x_sh.take 18, ρ, 0, 0) σ τ Q := by
  refine ev_go 100 [] ?_
  refine ⟨7, rfl, by decide, ?_⟩
  refine ⟨7, rfl, by decide, ?_⟩
  refine ⟨7, rfl, by decide, ?_⟩
  refine ⟨16, rfl, by decide, ?_⟩
  refine ⟨16, rfl, by decide, ?_⟩
  exact h
theorem i_P24 (ρ : xR) (σ : xS) (τ : xL) {Q : xQ} (h : Q none (x_sh.take 30, iPr 24 25 ρ, 5, 53) (iPs 24 25 σ) (iPt 25 τ)) : Ev m_P_init 0 (x_loc [.ref 24] m_P_init.2.2.1) [] (x_sh.take 25, ρ, 0, 0) σ τ Q := by
  refine ev_go 100 [] ?_
  refine ⟨7, rfl, by decide, ?_⟩
  refine ⟨7, rfl, by decide, ?_⟩
  refine ⟨7, rfl, by decide, ?_⟩
  refine ⟨16, rfl, by decide, ?_⟩
  refine ⟨16, rfl, by decide, ?_⟩
  exact h
theorem i_P49 (ρ : xR) (σ : xS) (τ : xL) {Q : xQ} (h : Q none (x_sh.take 55, iPr 49 50 ρ, 5, 53) (iPs 49 50 σ) (iPt 50 τ)) : Ev m_P_init 0 (x_loc [.ref 49] m_P_init.2.2.1) [] (x_sh.take 50, ρ, 0, 0) σ τ Q := by
  refine ev_go 100 [] ?_
  refine ⟨7, rfl, by decide, ?_⟩
  refine ⟨7, rfl, by decide, ?_⟩
  refine ⟨7, rfl, by decide, ?_⟩
  refine ⟨16, rfl, by decide, ?_⟩
  refine ⟨16, rfl, by decide, ?_⟩
  exact h
theorem i_P55 (ρ : xR) (σ : xS) (τ : xL) {Q : xQ} (h : Q none (x_sh.take 61, iPr 55 56 ρ, 5, 53) (iPs 55 56 σ) (iPt 56 τ)) : Ev m_P_init 0 (x_loc [.ref 55] m_P_init.2.2.1) [] (x_sh.take 56, ρ, 0, 0) σ τ Q := by
  refine ev_go 100 [] ?_
  refine ⟨7, rfl, by decide, ?_⟩
  refine ⟨7, rfl, by decide, ?_⟩
  refine ⟨7, rfl, by decide, ?_⟩
  refine ⟨16, rfl, by decide, ?_⟩
  refine ⟨16, rfl, by decide, ?_⟩
  exact h
theorem i_P61 (ρ : xR) (σ : xS) (τ : xL) {Q : xQ} (h : Q none (x_sh.take 67, iPr 61 62 ρ, 5, 53) (iPs 61 62 σ) (iPt 62 τ)) : Ev m_P_init 0 (x_loc [.ref 61] m_P_init.2.2.1) [] (x_sh.take 62, ρ, 0, 0) σ τ Q := by
  refine ev_go 100 [] ?_
  refine ⟨7, rfl, by decide, ?_⟩
  refine ⟨7, rfl, by decide, ?_⟩
  refine ⟨7, rfl, by decide, ?_⟩
  refine ⟨16, rfl, by decide, ?_⟩
  refine ⟨16, rfl, by decide, ?_⟩
  exact h
theorem i_G31 (ρ : xR) (σ : xS) (τ : xL) {Q : xQ} (h : Q none (x_sh.take 39, iGr 31 32 ρ, 7, 291) (iGs 31 32 σ) (iGt 32 τ)) : Ev m_G_init 0 (x_loc [.ref 31] m_G_init.2.2.1) [] (x_sh.take 32, ρ, 0, 0) σ τ Q := by
  refine ev_go 100 [] ?_
  refine ⟨7, rfl, by decide, ?_⟩
  refine ⟨7, rfl, by decide, ?_⟩
  refine ⟨128, rfl, by decide, ?_⟩
  refine ⟨128, rfl, by decide, ?_⟩
  refine ⟨7, rfl, by decide, ?_⟩
  refine ⟨7, rfl, by decide, ?_⟩
  refine ⟨7, rfl, by decide, ?_⟩
  exact h
theorem i_D39 (ρ : xR) (σ : xS) (τ : xL) {Q : xQ} (h : Q none (x_sh.take 44, iDr 39 40 ρ, 4, 176) (iDs 39 40 σ) (iDt 40 τ)) : Ev m_D_init 0 (x_loc [.ref 39] m_D_init.2.2.1) [] (x_sh.take 40, ρ, 0, 0) σ τ Q := by
  refine ev_go 100 [] ?_
  refine ⟨16, rfl, by decide, ?_⟩
  refine ⟨16, rfl, by decide, ?_⟩
  refine ⟨16, rfl, by decide, ?_⟩
  refine ⟨128, rfl, by decide, ?_⟩
  exact h
theorem i_F44 (ρ : xR) (σ : xS) (τ : xL) {Q : xQ} (h : Q none (x_sh.take 48, iFr 44 45 ρ, 3, 263) (iFs 44 45 σ) (iFt 45 τ)) : Ev m_F_init 0 (x_loc [.ref 44] m_F_init.2.2.1) [] (x_sh.take 45, ρ, 0, 0) σ τ Q := by
  refine ev_go 100 [] ?_
  refine ⟨128, rfl, by decide, ?_⟩
  refine ⟨128, rfl, by decide, ?_⟩
  refine ⟨7, rfl, by decide, ?_⟩
  exact h
theorem i_H1 (ρ : xR) (σ : xS) (τ : xL) {Q : xQ} (h : Q none (x_sh.take 10, a1 (x_wr (x_wrr ρ 2 6) 1 0 2) 9 1 1, 8, 252) (p1 (x_row (x_zs 0 (x_zs 0 σ 2) 9) 9 (fun j => if j < 6 then (-1) else x_zs 0 (x_zs 0 σ 2) 9 9 j)) 1 2 0) (x_zs 0 (x_zs 0 τ 2) 9)) : Ev m_H_init 0 (x_loc [.ref 1, .int 6, .int 40, .int 0] m_H_init.2.2.1) [] (x_sh.take 2, ρ, 0, 0) σ τ Q := by
  refine ev_go 100 [] ?_
  refine ⟨6, 40, rfl, rfl, by decide, by decide, ?_⟩
  refine ⟨6, rfl, by decide, ?_⟩
  refine e_J_fillg _ _ _ 9 6 (-1) rfl (by decide) ?_
  exact h
theorem i_H10 (ρ : xR) (σ : xS) (τ : xL) {Q : xQ} (h : Q none (x_sh.take 17, a1 (x_wr (x_wrr ρ 11 4) 10 0 11) 16 10 1, 6, 328) (p1 (x_row (x_zs 0 (x_zs 0 σ 11) 16) 16 (fun j => if j < 4 then (-1) else x_zs 0 (x_zs 0 σ 11) 16 16 j)) 10 2 32) (x_zs 0 (x_zs 0 τ 11) 16)) : Ev m_H_init 0 (x_loc [.ref 10, .int 4, .int 80, .int 32] m_H_init.2.2.1) [] (x_sh.take 11, ρ, 0, 0) σ τ Q := by
  refine ev_go 100 [] ?_
  refine ⟨4, 80, rfl, rfl, by decide, by decide, ?_⟩
  refine ⟨4, rfl, by decide, ?_⟩
  refine e_J_fillg _ _ _ 16 4 (-1) rfl (by decide) ?_
  exact h
theorem i_R23 (ρ : xR) (σ : xS) (τ : xL) {Q : xQ} (h : Q none (x_sh.take 30, x_wr (iPr 24 25 (x_no ρ 24)) 23 0 24, 6, 61) (iPs 24 25 (x_zs 0 σ 24)) (iPt 25 (x_zs 0 τ 24))) : Ev m_R_init 0 (x_loc [.ref 23] m_R_init.2.2.1) [] (x_sh.take 24, ρ, 0, 0) σ τ Q := by
  refine ev_go 100 [] ?_
  refine i_P24 _ _ _ ?_
  exact h
def Hi (ρ : xR) : Prop := ∀ q j, 93 ≤ q ∨ 40 ≤ j → ρ q j = none
theorem Hi.nil : Hi (fun _ _ => none) := fun _ _ _ => rfl
theorem beq_no {a b : Nat} (h : a ≠ b) : Nat.beq a b = false := by
  cases hb : Nat.beq a b
  · rfl
  · exact absurd (Nat.eq_of_beq_eq_true hb) h
theorem Hi.no {ρ : xR} (h : Hi ρ) (q : Nat) : Hi (x_no ρ q) := fun q' j' hj => by
  unfold x_no
  cases Nat.beq q' q
  · exact h q' j' hj
  · rfl
theorem Hi.wr {ρ : xR} (h : Hi ρ) {q j : Nat} (hq : q < 93) (hj : j < 40) (r : Nat) : Hi (x_wr ρ q j r) := fun q' j' hj' => by
  unfold x_wr
  have e : (Nat.beq q' q && Nat.beq j' j) = false := by
    rcases hj' with z | z
    · rw [beq_no (by omega)]
      rfl
    · rw [beq_no (a := j') (by omega), Bool.and_false]
  rw [e]
  exact h q' j' hj'
theorem Hi.wrr {ρ : xR} (h : Hi ρ) {q n : Nat} (hq : q < 93) (hn : n ≤ 40) : Hi (x_wrr ρ q n) := fun q' j' hj' => by
  unfold x_wrr
  by_cases e : q' = q
  · have e2 : Nat.blt j' n = false := by
      cases hb : Nat.blt j' n
      · rfl
      · have := Nat.le_of_ble_eq_true hb
        omega
    rw [e2]
    cases Nat.beq q' q
    · exact h q' j' hj'
    · rfl
  · rw [beq_no e]
    exact h q' j' hj'
theorem Hi.a1 {ρ : xR} (h : Hi ρ) {n q j : Nat} (hq : q < 93) (hj : j < 40) : Hi (a1 ρ n q j) := (h.no n).wr hq hj n
theorem Hi.iP {ρ : xR} (h : Hi ρ) {q n : Nat} (hq : q < 93) : Hi (iPr q n ρ) := (((((h.a1 hq (by decide)).a1 hq (by decide)).a1 hq (by decide)).a1 hq (by decide)).a1 hq (by decide))
theorem Hi.iG {ρ : xR} (h : Hi ρ) {q n : Nat} (hq : q < 93) : Hi (iGr q n ρ) := (((((((h.a1 hq (by decide)).a1 hq (by decide)).a1 hq (by decide)).a1 hq (by decide)).a1 hq (by decide)).a1 hq (by decide)).a1 hq (by decide))
theorem Hi.iD {ρ : xR} (h : Hi ρ) {q n : Nat} (hq : q < 93) : Hi (iDr q n ρ) := ((((h.a1 hq (by decide)).a1 hq (by decide)).a1 hq (by decide)).a1 hq (by decide))
theorem Hi.iF {ρ : xR} (h : Hi ρ) {q n : Nat} (hq : q < 93) : Hi (iFr q n ρ) := (((h.a1 hq (by decide)).a1 hq (by decide)).a1 hq (by decide))
theorem x_nth_ge {α : Type} : ∀ {l : List α} {k : Nat}, l.length ≤ k → x_nth l k = none
  | [], _, _ => rfl
  | _ :: xs, 0, h => absurd h (by simp)
  | _ :: xs, k + 1, h => x_nth_ge (l := xs) (by simpa using h)
theorem rl_len : ∀ q, q < 93 → ((x_nth x_rl q).getD []).length ≤ 40 := by decide +kernel
theorem Hi.rf : Hi x_rf := fun q j h => by
  unfold x_rf
  by_cases hq : q < 93
  · have h2 := rl_len q hq
    cases hx : x_nth x_rl q with
    | none => rfl
    | some l =>
      rw [hx] at h2
      have : x_nth l j = none := x_nth_ge (by
        have : l.length ≤ 40 := h2
        omega)
      simp only [this]
  · rw [x_nth_ge (l := x_rl) (by have : x_rl.length = 93 := by decide +kernel
                                 omega)]
theorem rf_eq {ρ : xR} (h : Hi ρ) (h2 : ∀ q, q < 93 → ∀ j, j < 40 → ρ q j = x_rf q j) : ρ = x_rf := by
  funext q j
  by_cases hc : q < 93 ∧ j < 40
  · exact h2 q hc.1 j hc.2
  · rw [h q j (by omega), Hi.rf q j (by omega)]
