/-- the table's words that a callee may count on -/
def x_tbl : List Jvm.Cond := lw_tbl.filter goodWord
theorem x_tbl_in {w : Jvm.Cond} (h : w ∈ lw_tbl) (hg : goodWord w = true) : w ∈ x_tbl := List.mem_filter.mpr ⟨h, hg⟩
theorem x_uws_good {C : String} {T : u_T} {N : Nat} : ∀ w ∈ u_ws C T N, goodWord w = true := by
  intro w hw
  obtain ⟨k, -, rfl⟩ := List.mem_map.mp hw
  unfold u_lay
  split <;> rfl
def x_isr : FieldType → Bool
  | .array _ => true
  | .object _ => true
  | _ => false
theorem x_isr_ok {ty : FieldType} (h : x_isr ty = true) (r : Nat) : narrow ty (.ref r) = .ref r ∧ fits ty (.ref r) = true ∧ defaultValue ty = .null := by
  cases ty <;> first | exact ⟨rfl, rfl, rfl⟩ | exact absurd h (by simp [x_isr])
def x_clas (ci : Nat) (C : String) (T : u_T) (N : Nat) (ty : Nat → FieldType) : Prop :=
  x_cl[ci]? = some (C, T, N) ∧ C = x_cn ci ∧ (∀ w ∈ u_ws C T N, w ∈ x_tbl) ∧ (∀ k, k < N → parseFieldDescriptor (T k).2.2.1 = some (ty k)) ∧ (∀ a, a < N → ∀ b, b < N → a ≠ b → (T a).2.1 ≠ (T b).2.1) ∧ (∀ k, x_fld ci k = T k) ∧ x_clN ci = N ∧ (∀ k, k < N → (T k).1 = x_cn ci) ∧ (∀ k, k < N → (x_ft ci k = 0 → ty k = .int) ∧ (x_ft ci k = 1 → ty k = .long) ∧ (x_ft ci k = 2 → x_isr (ty k) = true) ∧ x_ft ci k ≤ 2) ∧ Cond.instantiable C N ∈ x_tbl ∧ Cond.initialized C ∈ x_tbl
theorem x_clas0 : x_clas 0 "SnowTracks$Dropping" x_F0 5 x_t0 := ⟨rfl, by decide +kernel, fun w hw => x_tbl_in (x_in0 w hw) (x_uws_good w hw), x_ty0, x_nm0, fun _ => rfl, rfl, by decide +kernel, by decide +kernel, x_tbl_in (by decide +kernel) rfl, x_tbl_in (by decide +kernel) rfl⟩
theorem x_clas1 : x_clas 1 "SnowTracks$Graph" x_F1 9 x_t1 := ⟨rfl, by decide +kernel, fun w hw => x_tbl_in (x_in1 w hw) (x_uws_good w hw), x_ty1, x_nm1, fun _ => rfl, rfl, by decide +kernel, by decide +kernel, x_tbl_in (by decide +kernel) rfl, x_tbl_in (by decide +kernel) rfl⟩
theorem x_clas2 : x_clas 2 "SnowTracks$Pass" x_F2 8 x_t2 := ⟨rfl, by decide +kernel, fun w hw => x_tbl_in (x_in2 w hw) (x_uws_good w hw), x_ty2, x_nm2, fun _ => rfl, rfl, by decide +kernel, by decide +kernel, x_tbl_in (by decide +kernel) rfl, x_tbl_in (by decide +kernel) rfl⟩
theorem x_clas3 : x_clas 3 "SnowTracks$People" x_F3 4 x_t3 := ⟨rfl, by decide +kernel, fun w hw => x_tbl_in (x_in3 w hw) (x_uws_good w hw), x_ty3, x_nm3, fun _ => rfl, rfl, by decide +kernel, by decide +kernel, x_tbl_in (by decide +kernel) rfl, x_tbl_in (by decide +kernel) rfl⟩
theorem x_clas4 : x_clas 4 "SnowTracks$Reader" x_F4 1 x_t4 := ⟨rfl, by decide +kernel, fun w hw => x_tbl_in (x_in4 w hw) (x_uws_good w hw), x_ty4, x_nm4, fun _ => rfl, rfl, by decide +kernel, by decide +kernel, x_tbl_in (by decide +kernel) rfl, x_tbl_in (by decide +kernel) rfl⟩
theorem x_clas5 : x_clas 5 "SnowTracks$Shelf" x_F5 3 x_t5 := ⟨rfl, by decide +kernel, fun w hw => x_tbl_in (x_in5 w hw) (x_uws_good w hw), x_ty5, x_nm5, fun _ => rfl, rfl, by decide +kernel, by decide +kernel, x_tbl_in (by decide +kernel) rfl, x_tbl_in (by decide +kernel) rfl⟩
theorem x_clas6 : x_clas 6 "SnowTracks" x_F6 13 x_t6 := ⟨rfl, by decide +kernel, fun w hw => x_tbl_in (x_in6 w hw) (x_uws_good w hw), x_ty6, x_nm6, fun _ => rfl, rfl, by decide +kernel, by decide +kernel, x_tbl_in (by decide +kernel) rfl, x_tbl_in (by decide +kernel) rfl⟩
theorem x_clas7 : x_clas 7 "SnowTracksModel" x_F7 36 x_t7 := ⟨rfl, by decide +kernel, fun w hw => x_tbl_in (x_in7 w hw) (x_uws_good w hw), x_ty7, x_nm7, fun _ => rfl, rfl, by decide +kernel, by decide +kernel, x_tbl_in (by decide +kernel) rfl, x_tbl_in (by decide +kernel) rfl⟩
theorem x_class (ci : Nat) (h : ci < 8) : ∃ C T N ty, x_clas ci C T N ty := by
  rcases (show ci = 0 ∨ ci = 1 ∨ ci = 2 ∨ ci = 3 ∨ ci = 4 ∨ ci = 5 ∨ ci = 6 ∨ ci = 7 by omega) with rfl | rfl | rfl | rfl | rfl | rfl | rfl | rfl
  · exact ⟨_, _, _, _, x_clas0⟩
  · exact ⟨_, _, _, _, x_clas1⟩
  · exact ⟨_, _, _, _, x_clas2⟩
  · exact ⟨_, _, _, _, x_clas3⟩
  · exact ⟨_, _, _, _, x_clas4⟩
  · exact ⟨_, _, _, _, x_clas5⟩
  · exact ⟨_, _, _, _, x_clas6⟩
  · exact ⟨_, _, _, _, x_clas7⟩
theorem x_RA_eq {s : State} {c1 c2 : ClassId} {ty : FieldType} (h1 : va_RA s c1 ty) (h2 : va_RA s c2 ty) : c1 = c2 := by
  cases ty with
  | object C =>
    obtain ⟨-, -, -, -, -, e1⟩ := h1
    obtain ⟨-, -, -, -, -, e2⟩ := h2
    exact Option.some.inj (e1.symm.trans e2)
  | _ => exact Option.some.inj (Eq.trans (Eq.symm h1) h2)
/-- what a row says, once the table is checked -/
theorem x_fnd_mem : ∀ (rs : List xRow) (pc : Nat) (r : Instr × Nat × Nat × Nat × Value), x_fnd rs pc = some r → (pc, r) ∈ rs
  | [], _, _, h => by cases h
  | q :: rs, pc, r, h => by
    simp only [x_fnd] at h
    cases hb : Nat.beq q.1 pc
    · rw [hb] at h
      exact List.mem_cons_of_mem _ (x_fnd_mem rs pc r h)
    · rw [hb] at h
      have e := Nat.eq_of_beq_eq_true hb
      cases h
      subst e
      exact List.mem_cons_self
theorem x_okM_at {M : xM} {pc nx a b : Nat} {i : Instr} {v : Value} (hok : x_okM M = true) (hf : x_fnd M.2.2.2.2.2.2.1 pc = some (i, nx, a, b, v)) :
    ∃ (raw : Instr) (len : Nat), decode (x_by M.1) pc = .ok (raw, len) ∧ nx = pc + len ∧ x_oki (M.1, M.2.1, M.2.2.1, M.2.2.2.2.2.1) pc raw len i a b v = true := by
  have h := List.all_eq_true.mp hok _ (x_fnd_mem _ _ _ hf)
  unfold x_okr at h
  dsimp only at h
  cases hd : decode (x_by M.1) pc with
  | error e => rw [hd] at h; cases h
  | ok q =>
    obtain ⟨raw, len⟩ := q
    rw [hd] at h
    simp only [Bool.and_eq_true] at h
    exact ⟨raw, len, rfl, Nat.eq_of_beq_eq_true h.1, h.2⟩
theorem x_ok1 {len : Nat} {raw i : Instr} (h : (Nat.beq len 1 && decide (raw = i)) = true) : len = 1 ∧ raw = i := by
  simp only [Bool.and_eq_true, decide_eq_true_eq] at h
  exact ⟨Nat.eq_of_beq_eq_true h.1, h.2⟩
theorem x_ok2 {len k : Nat} {P : Prop} [Decidable P] (h : (Nat.beq len k && decide P) = true) : len = k ∧ P := by
  simp only [Bool.and_eq_true, decide_eq_true_eq] at h
  exact ⟨Nat.eq_of_beq_eq_true h.1, h.2⟩
theorem x_ok3 {a b : Bool} (h : (a && b) = true) : a = true ∧ b = true := by simpa using h
theorem x_has_in {p : Nat} {w : Jvm.Cond} (h : x_has p w = true) (hg : goodWord w = true) : w ∈ x_tbl := x_tbl_in (List.mem_of_getElem? (of_decide_eq_true h)) hg
theorem x_has_lw {p : Nat} {w : Jvm.Cond} (h : x_has p w = true) : w ∈ lw_tbl := List.mem_of_getElem? (of_decide_eq_true h)
