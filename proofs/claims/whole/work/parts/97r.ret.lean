/-! WHAT A METHOD GIVES BACK -/
def rk (k : Nat) (r : Option Value) : Prop := (k = 1 → ∃ x, r = some (.int x)) ∧ (k = 3 → ∃ x, r = some (.long x))
theorem x_stp_ret {M : xM} {nx a b : Nat} {v : Value} {ls st : List Value} {g : xG} {σ : xS} {τ : xL} {K : Nat → List Value → List Value → xG → xS → xL → Prop} {F : xQ} {C : xM → List Value → xG → xS → xL → xQ → Prop} {i : Instr} (h : x_stp M i nx a b v ls st g σ τ K F C) : x_stp M i nx a b v ls st g σ τ K (fun r g σ τ => F r g σ τ ∧ rk M.2.2.2.2.1 r) C := by
  cases i
  case ireturn =>
    rcases st with _ | ⟨(_ | _ | _ | _ | _ | _ | _), (_ | ⟨_, _⟩)⟩ <;> first | exact False.elim h | skip
    simp only [x_stp] at h ⊢
    cases hq : Nat.beq M.2.2.2.2.1 1
    · rw [hq] at h
      refine x_bif (fun hc h => ⟨h.1, h.2, fun e => ?_, fun e => ?_⟩) h
      · rw [e] at hq
        exact absurd hq (by decide)
      · rw [e] at hc
        exact absurd hc (by decide)
    · rw [hq] at h
      have e1 := Nat.eq_of_beq_eq_true hq
      exact ⟨h, fun _ => ⟨_, rfl⟩, fun e => absurd (e1.symm.trans e) (by decide)⟩
  case lreturn =>
    rcases st with _ | ⟨(_ | _ | _ | _ | _ | _ | _), (_ | ⟨_, _⟩)⟩ <;> first | exact False.elim h | skip
    refine x_bif (fun hc h => ⟨h, fun e => ?_, fun _ => ⟨_, rfl⟩⟩) h
    rw [e] at hc
    exact absurd hc (by decide)
  case return_ =>
    rcases st with _ | ⟨_, _⟩
    · refine x_bif (fun hc h => ⟨h, fun e => ?_, fun e => ?_⟩) h
      · rw [e] at hc
        exact absurd hc (by decide)
      · rw [e] at hc
        exact absurd hc (by decide)
    · exact False.elim h
  all_goals exact h
theorem Ev.ret {M : xM} {pc : Nat} {ls st : List Value} {g : xG} {σ : xS} {τ : xL} {Q : xQ} (h : Ev M pc ls st g σ τ Q) : Ev M pc ls st g σ τ (fun r g σ τ => Q r g σ τ ∧ rk M.2.2.2.2.1 r) := by
  refine h (fun M pc ls st g σ τ Q => Ev M pc ls st g σ τ (fun r g σ τ => Q r g σ τ ∧ rk M.2.2.2.2.1 r)) ?_
  intro M pc ls st g σ τ Q h
  apply Ev.fold
  unfold x_one at h ⊢
  generalize x_fnd M.2.2.2.2.2.2.1 pc = o at h ⊢
  rcases o with _ | ⟨i, nx, a, b, v⟩
  · exact h
  · refine x_stp_ret (F := Q) ?_
    exact x_stp_mono (K := fun pc ls st g σ τ => Ev M pc ls st g σ τ (fun r g σ τ => Q r g σ τ ∧ rk M.2.2.2.2.1 r)) (C := fun M' as g σ τ Q' => Ev M' 0 (x_loc as M'.2.2.1) [] g σ τ (fun r g σ τ => Q' r g σ τ ∧ rk M'.2.2.2.2.1 r)) (F := Q) (fun _ _ _ _ _ _ h => h) (fun _ _ _ _ h => h) (fun _ _ _ _ _ _ _ hq h => h.mono (fun r g σ τ z => hq _ _ _ _ z.1)) h
theorem pair_int {MS MM : xM} {as : List Value} (hp : Pair MS MM as) (k1 : MS.2.2.2.2.1 = 1) {σ : xS} {τ : xL} (hR : Rel σ τ) : Ev MS 0 (x_loc (.ref 0 :: as) MS.2.2.1) [] x_g σ τ (fun r1 g1 σ1 τ1 => ∃ x, r1 = some (.int x) ∧ g1 = x_g ∧ Ev MM 0 (x_loc (.ref 67 :: as) MM.2.2.1) [] x_g σ1 τ1 (fun r2 g2 σ2 τ2 => r2 = some (.int x) ∧ g2 = x_g ∧ Rel σ2 τ2)) := by
  refine ((hp σ τ hR).ret).mono (fun r1 g1 σ1 τ1 z => ?_)
  obtain ⟨⟨hg, hE⟩, hk⟩ := z
  obtain ⟨x, hx⟩ := hk.1 k1
  refine ⟨x, hx, hg, hE.mono (fun r2 g2 σ2 τ2 y => ?_)⟩
  exact ⟨by rw [← y.2.1, hx], y.1, y.2.2.2⟩
theorem pair_long {MS MM : xM} {as : List Value} (hp : Pair MS MM as) (k3 : MS.2.2.2.2.1 = 3) {σ : xS} {τ : xL} (hR : Rel σ τ) : Ev MS 0 (x_loc (.ref 0 :: as) MS.2.2.1) [] x_g σ τ (fun r1 g1 σ1 τ1 => ∃ x, r1 = some (.long x) ∧ g1 = x_g ∧ Ev MM 0 (x_loc (.ref 67 :: as) MM.2.2.1) [] x_g σ1 τ1 (fun r2 g2 σ2 τ2 => r2 = some (.long x) ∧ g2 = x_g ∧ Rel σ2 τ2)) := by
  refine ((hp σ τ hR).ret).mono (fun r1 g1 σ1 τ1 z => ?_)
  obtain ⟨⟨hg, hE⟩, hk⟩ := z
  obtain ⟨x, hx⟩ := hk.2 k3
  refine ⟨x, hx, hg, hE.mono (fun r2 g2 σ2 τ2 y => ?_)⟩
  exact ⟨by rw [← y.2.1, hx], y.1, y.2.2.2⟩
theorem lin {k d L : Nat} (hk : k + 6 ≤ L) (hL : L ≤ 3072) (hd : d < 6) {v : Int32} (hv : v = nI d) : vp_in (nI k + v) L := by
  rw [hv, nI_add]
  exact q_in (by omega) (by omega)
