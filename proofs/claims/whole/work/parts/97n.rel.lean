theorem Hi.iM {ρ : xR} (h : Hi ρ) : Hi (iMr ρ) := by
  have h1 : Hi (n1r ρ) := ((((h.a1 (by decide) (by decide)).a1 (by decide) (by decide)).a1 (by decide) (by decide)).a1 (by decide) (by decide))
  have h2 : Hi (n2r (n1r ρ)) := (((((h1.a1 (by decide) (by decide)).a1 (by decide) (by decide)).a1 (by decide) (by decide)).a1 (by decide) (by decide)).a1 (by decide) (by decide))
  have h3 : Hi (n3r (n2r (n1r ρ))) := (((((h2.a1 (by decide) (by decide)).a1 (by decide) (by decide)).a1 (by decide) (by decide)).a1 (by decide) (by decide)).a1 (by decide) (by decide))
  have h4 : Hi (n4r (n3r (n2r (n1r ρ)))) := (((((h3.a1 (by decide) (by decide)).a1 (by decide) (by decide)).a1 (by decide) (by decide)).a1 (by decide) (by decide)).a1 (by decide) (by decide))
  have h5 : Hi (n5r (n4r (n3r (n2r (n1r ρ))))) := ((((((h4.a1 (by decide) (by decide)).a1 (by decide) (by decide)).a1 (by decide) (by decide)).a1 (by decide) (by decide)).a1 (by decide) (by decide)).a1 (by decide) (by decide))
  exact h5
theorem Hi.iS {ρ : xR} (h : Hi ρ) : Hi (j8r ρ) := by
  have h1 : Hi (j1r ρ) := ((((h.no 1).wrr (by decide) (by decide)).wr (by decide) (by decide) 2).a1 (by decide) (by decide)).wr (by decide) (by decide) 1
  have h2 : Hi (j2r ρ) := ((((h1.no 10).wrr (by decide) (by decide)).wr (by decide) (by decide) 11).a1 (by decide) (by decide)).wr (by decide) (by decide) 10
  have h3 : Hi (j3r ρ) := ((h2.no 17).iP (by decide)).wr (by decide) (by decide) 17
  have h4 : Hi (j4r ρ) := ((((h3.no 23).no 24).iP (by decide)).wr (by decide) (by decide) 24).wr (by decide) (by decide) 23
  have h5 : Hi (j5r ρ) := (h4.no 30).wr (by decide) (by decide) 30
  have h6 : Hi (j6r ρ) := ((((((((h5.no 31).iG (by decide)).wr (by decide) (by decide) 31).no 39).iD (by decide)).wr (by decide) (by decide) 39).no 44).iF (by decide)).wr (by decide) (by decide) 44
  have h7 : Hi (j7r ρ) := (h6.no 48).wr (by decide) (by decide) 48
  exact ((((((((h7.no 49).iP (by decide)).wr (by decide) (by decide) 49).no 55).iP (by decide)).wr (by decide) (by decide) 55).no 61).iP (by decide)).wr (by decide) (by decide) 61
/-- what stands behind the constructors -/
def rF : xR := iMr (x_no (j8r (x_no (fun _ _ => none) 0)) 67)
def sF : xS := iMs (x_zs 0 (j8s (x_zs 0 (fun _ _ => 0) 0)) 67)
def tF : xL := iMt (x_zs 0 (j8t (x_zs 0 (fun _ _ => 0) 0)) 67)
theorem rF_hi : Hi rF := (((Hi.nil.no 0).iS).no 67).iM
theorem rF_at : ∀ q, q < 93 → ∀ j, j < 40 → rF q j = x_rf q j := by decide +kernel
theorem rF_eq : rF = x_rf := rf_eq rF_hi rF_at
theorem sF_1 : sF 1 2 = 0 := by decide +kernel
theorem sF_2 : ∀ r, r < 6 → sF 9 r = -1 ∧ sF 69 r = -9 := by decide +kernel
theorem sF_3 : ∀ r, r < 6 → ∀ i, i < 40 → sF (3 + r) i = sF 70 (40 * r + i) := by decide +kernel
theorem sF_4 : sF 10 2 = 32 := by decide +kernel
theorem sF_5 : ∀ r, r < 4 → sF 16 r = -1 ∧ sF 72 r = -9 := by decide +kernel
theorem sF_6 : ∀ r, r < 4 → ∀ i, i < 80 → sF (12 + r) i = sF 73 (80 * r + i) := by decide +kernel
theorem sF_7 : sF 17 0 = 0 ∧ sF 17 1 = 0 ∧ sF 17 2 = 0 ∧ sF 67 10 = 0 ∧ sF 67 14 = 0 ∧ sF 67 17 = 0 := by decide +kernel
theorem sF_8 : ∀ k, k < 3 → sF (49 + 6 * k) 0 = 0 ∧ sF 84 (42 * k) = -9 := by decide +kernel
theorem sF_9 : sF 0 8 = sF 67 2 ∧ sF 0 11 = sF 67 0 ∧ ∀ f, f < 6 → sF 48 f = sF 68 f := by decide +kernel
theorem tF_1 : tF 0 9 = tF 67 3 ∧ tF 0 10 = tF 67 4 := by decide +kernel
theorem Rel.start : Rel sF tF := by
  refine ⟨⟨sF_1, fun r hr => ⟨Or.inl (sF_2 r hr), sF_3 r hr⟩⟩, ⟨sF_4, fun r hr => ⟨Or.inl (sF_5 r hr), sF_6 r hr⟩⟩, ⟨(0, 0, 0, fun _ => 0, fun _ => 0, fun _ => 0, fun _ => 0, fun _ => 0), ?_, ?_, ?_, fun k hk => Or.inl (sF_8 k hk)⟩, sF_9.1, sF_9.2.1, sF_9.2.2, tF_1.1, tF_1.2⟩
  · exact ⟨sF_7.1, sF_7.2.1, sF_7.2.2.1, fun i hi => absurd hi (Nat.not_lt_zero i), fun k hk => absurd hk (Nat.not_lt_zero k)⟩
  · exact ⟨sF_7.2.2.2.1, sF_7.2.2.2.2.1, sF_7.2.2.2.2.2, fun i hi => absurd hi (Nat.not_lt_zero i), fun k hk => absurd hk (Nat.not_lt_zero k)⟩
  · exact ⟨Nat.zero_le 7, Nat.zero_le 16, Nat.zero_le 1, fun i hi => absurd hi (Nat.not_lt_zero i), fun k hk => absurd hk (Nat.not_lt_zero k)⟩
/-- the law's world -/
abbrev x_gl : xG := (x_sh, x_rf, 95, 3041)
set_option maxRecDepth 16384 in
set_option maxHeartbeats 4000000 in
theorem law_start (b L : Nat) (xs : Nat → Int32) {Q : xQ} (h : Ev (m_L_law b L xs) 18 [.retAddr b, .ref 0, .ref 67, .int (nI 0)] [] x_gl sF tF Q) : Ev (m_L_law b L xs) 0 [.retAddr b, .null, .null, .null] [] ([], fun _ _ => none, 0, 0) (fun _ _ => 0) (fun _ _ => 0) Q := by
  have h' : Ev (m_L_law b L xs) 18 [.retAddr b, .ref 0, .ref 67, .int (nI 0)] [] (x_sh, rF, 95, 3041) sF tF Q := by
    rw [rF_eq]
    exact h
  refine ev_go 100 [18] ?_
  refine i_S0 _ _ _ (fun c s => ?_)
  refine i_M67 _ _ _ (fun c s => ?_)
  exact h' 
