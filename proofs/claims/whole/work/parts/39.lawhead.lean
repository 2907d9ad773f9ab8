/-! THE CLAIM OUT OF ONE WALK OF THE LAW'S BODY. Your part is whole_start (and what it stands on); all else here is the same for every law, but numbers. -/
def R_law : String := "SnowTracksLaw"
def lw_P (b : Addr) (xs : List Int32) (args : Array Value) (s : State) : Prop := args = #[.ref b] ∧ s.IntsAt b xs ∧ xs.length ≤ 3072 ∧ (Jvm.Cond.and given_1 narrow_1).before args s = true
def lw_Q (_ : Array Value) (s : State) (o : Outcome) (t : State) : Prop := o = .returned (some (.int 1)) ∧ Framed s o t [] 600000 7302250
def lw_Z (below : List Frame) (a : Array Value) (s : State) : State → Prop := fun t => ∃ o, t.status = .running ∧ Ended t below o ∧ lw_Q a s o t
/-- the law's own end, with 1 on the stack, nothing written that was there before, its room as the claim has it -/
theorem lw_ret {p : Program} {l : Launch} {e : Env} {s : State} {m : MethodId} {below : List Frame} {meth : Method} {c : Code} {b : Nat} (hx : p.tables.exec = Jvm.exec) (hb : c.code = code) (hr : meth.sig.returnType = ret) (hlocks : meth.locks = false) {pc : Nat} {H : Heap} {ls : Array Slot} (hdg : decode code pc = .ok (.ireturn, 1)) : W p l e room_1 s m #[Value.ref b] below meth c H [] 600000 7302250 (lw_Z below #[Value.ref b] s) (F0 m pc ls [.int 1]) := by
  intro T hT X
  obtain ⟨fs, hret, hrun, hended, hW, hframe⟩ := X.leave (v := some (.int 1)) (hlocks := hlocks) (fun h => by rw [hr] at h; cases h)
  have hmeth' : T.vm.method? m = some meth := X.method'
  refine ⟨T.setFrames fs, ?_, .returned (some (.int 1)), hrun, hended, rfl, ⟨_, rfl⟩, hW, hframe⟩
  jvm_step X.here [X.here.top, hx, hb, hdg, hmeth', hr, ret, narrow_b1]
  (try refine ⟨rfl, ?_⟩); (try refine ⟨rfl, ?_⟩)
  first | (intro acts; rw [hret _ acts rfl rfl rfl]) | rw [hret _ _ rfl rfl rfl]
  exact Steps.refl _
/-- what holds at the law's entry: the machine, the code, the tables' words (any of lw_tbl by 'hts w (by decide +kernel)'), the script of L ints xs at the cell b, what the Statement gives of the start (any of its parts by flat_of_before) -/
def lw_At (p : Program) (s : State) (m : MethodId) (meth : Method) (c : Code) (b L : Nat) (xs : Nat → Int32) : Prop :=
  p.tables.exec = Jvm.exec ∧ c.code = code ∧ meth.sig.returnType = ret ∧ c.maxLocals = 4 ∧ s.vm.findClass R_law = some m.cls ∧ (∀ w ∈ lw_tbl, w.before #[Value.ref b] s = true) ∧ va_X b L xs s s.heap ∧ b < s.heap.size ∧ meth.locks = false ∧ (Jvm.Cond.and given_1 narrow_1).before #[Value.ref b] s = true

theorem x_AA_of {args : Array Value} {s : State} (h : (Cond.arrayOver (.array .int)).before args s = true) : x_AA s := by
  have et : (FieldType.array .int).toString = "[I" := by decide +kernel
  have et2 : "[" ++ (FieldType.array .int).toString = "[[I" := by decide +kernel
  simp only [Cond.before, Cond.holds, Cond.value, beq_iff_eq] at h
  rw [et2, et] at h
  cases hc : s.vm.findClass "[I" with
  | none => simp [hc] at h
  | some comp =>
    simp only [hc, Option.bind_some, Option.bind_eq_some_iff, Option.map_eq_some_iff] at h
    obtain ⟨c, hi, k, hk, hb⟩ := h
    obtain ⟨hlt, hp, -⟩ := Array.findIdx?_eq_some_iff_getElem.mp hi
    have hkk : s.vm.classes[c] = k := (Array.getElem?_eq_some_iff.mp hk).2
    rw [hkk] at hp
    cases hkind : k.kind with
    | array component ty =>
      rw [hkind] at hb hp
      simp only [beq_iff_eq] at hp
      simp only [Bool.and_eq_true, decide_eq_true_eq] at hb
      refine ⟨comp, c, k, hc, hk, ?_, hb.2⟩
      rw [hkind, hp, hb.1]
    | _ => rw [hkind] at hb; simp at hb
/-- the law's start, out of its walk in the small machine -/
theorem x_start {p : Program} {e : Env} {s : State} {m : MethodId} {below : List Frame} {meth : Method} {c : Code} (l : Launch) {b L : Nat} {xs : Nat → Int32} (C0 : lw_At p s m meth c b L xs) (hE : Ev (m_L_law b L xs) 0 [.retAddr b, .null, .null, .null] [] ([], fun _ _ => none, 0, 0) (fun _ _ => 0) (fun _ _ => 0) (fun r _ _ _ => r = some (.int 1))) :
    W p l e room_1 s m #[Value.ref b] below meth c s.heap [] 0 0 (lw_Z below #[Value.ref b] s) (entryFrame m ([Value.ref b] : List Value).toArray 4) := by
  obtain ⟨hx, hb, hr, hml, hown, hts0, hX, hbl, hlocks, hgv⟩ := C0
  have hts : ∀ w ∈ x_tbl, w.before #[Value.ref b] s = true := fun w hw => hts0 w (List.mem_filter.mp hw).1
  have hkn : ∀ ci : Nat, ∃ (cC : ClassId) (iS : Nat → Nat), ∀ q : vw_C, x_cl[ci]? = some q → u_Kn s q.1 q.2.1 q.2.2 cC iS := by
    intro ci
    by_cases hci : ci < 8
    · obtain ⟨C, T, N, ty, c1, c2, c3, -, -, -, -, -, -, c10, -⟩ := x_class ci hci
      obtain ⟨cC, iS, hk⟩ := u_known hts c3 (hts _ c10)
      exact ⟨cC, iS, fun q hq => by rw [c1] at hq; cases hq; exact hk⟩
    · refine ⟨0, fun _ => 0, fun q hq => ?_⟩
      have := (List.getElem?_eq_some_iff.mp hq).1
      exact absurd this hci
  have hd : ∃ (dC : Nat → ClassId) (dI : Nat → Nat → Nat), ∀ (k : Nat) (q : vw_C), x_cl[k]? = some q → u_Kn s q.1 q.2.1 q.2.2 (dC k) (dI k) :=
    ⟨fun k => (hkn k).choose, fun k => (hkn k).choose_spec.choose, fun k q hq => (hkn k).choose_spec.choose_spec q hq⟩
  obtain ⟨dC, dI, hKc⟩ := hd
  obtain ⟨cI, kI, compI, f1, f2, f3⟩ := Cond.arrayClass_spec (hts (.arrayClass .int) (x_tbl_in (by decide +kernel) rfl))
  obtain ⟨cZ, kZ, compZ, z1, z2, z3⟩ := Cond.arrayClass_spec (hts (.arrayClass .boolean) (x_tbl_in (by decide +kernel) rfl))
  have hAO := hts0 (.arrayOver (.object "SnowTracks$Pass")) (by decide +kernel)
  obtain ⟨compP, cP, kP, p1, p2, p3, p4, p5⟩ := Cond.arrayOver_spec hAO
  have hAA := x_AA_of (hts0 (.arrayOver (.array .int)) (by decide +kernel))
  obtain ⟨compA, cA, kA, a1, a2, a3, a4⟩ := id hAA
  obtain ⟨kc, hkc⟩ : ∃ kc : Nat → ClassId, kc = fun k => if k = 16 then cI else if k = 17 then cZ else if k = 18 then cA else cP := ⟨_, rfl⟩
  have k16 : kc 16 = cI := by rw [hkc]; rfl
  have k17 : kc 17 = cZ := by rw [hkc]; rfl
  have k18 : kc 18 = cA := by rw [hkc]; rfl
  have k19 : kc 19 = cP := by rw [hkc]; rfl
  have hK : va_K (dC, dI) x_cl (x_tys kc) s := by
    refine ⟨hKc, fun k q hk => ?_⟩
    unfold x_tys at hk
    rw [k16, k17, k18, k19] at hk
    match k, hk with
    | 0, hk => cases hk; exact ⟨fun n z => ⟨(fun k h => by cases h), kI, f2, compI, f3⟩, f1⟩
    | 1, hk => cases hk; exact ⟨fun n z => ⟨(fun k h => by cases h), kZ, z2, compZ, z3⟩, z1⟩
    | 2, hk => cases hk; exact ⟨fun n z => ⟨(fun k h => by cases h), kA, a2, compA, a3⟩, a4⟩
    | 3, hk => cases hk; exact ⟨fun n z => ⟨(fun k h => by cases h), kP, p3, compP, p4⟩, kP, compP, p3, p4, p1, p5⟩
    | k + 4, hk => simp at hk
  have hex : x_ex s := ⟨fun w hw hn => va_Nw.of (by cases w <;> first | rfl | exact absurd hn (by simp [x_nw])) (hts0 w hw), hAO, hAA⟩
  have hA : ∀ q : Nat, s.heap.size ≤ q → (fun q : Nat => s.heap.size ≤ q) q := fun _ h => h
  have hl := lv_entry ([.ref b]) (n := 4) (Nat.le_of_ble_eq_true rfl)
  rw [lg_entry_eq]
  refine x_sound l hE (ok_L_law b L xs) p e room_1 s m #[Value.ref b] below meth c ⟨hx, hb, hml, hown, hts, fun h => absurd (show (x_y 226).name = "<init>" from h) (by decide +kernel), Nat.le_refl _, Nat.le_refl _, Nat.le_refl _, Nat.le_refl _⟩ (dC, dI) kc (fun q => s.heap.size ≤ q) (lw_Z below #[Value.ref b] s) 0 (fun _ => 0) hK hex hA (fun _ => ⟨hX, hbl, Nat.not_le.mpr hbl⟩) ?_ (fun _ => 0) s.heap [] _ ⟨fun k q h => ?_, ⟨fun i j x y h => ?_, fun k q h => ?_⟩, fun q j r h => by cases h⟩ va_S.rf ⟨fun _ _ => rfl, Nat.le_refl _, fun _ => rfl, Nat.zero_le _, Nat.zero_le _⟩ ⟨hl.1, hl.2.1, fun q hq => hl.2.2 q ?_⟩
  · intro r g σ τ ad H locs arr pc hQ hW hS hag hrt
    have hQ : r = some (.int 1) := hQ
    subst hQ
    refine va_forget hS.2.2 ?_
    refine W.widen hag.2.2.2.1 hag.2.2.2.2 ?_
    exact lw_ret hx hb hr hlocks hrt.1
  · simp [x_wd] at h
  · simp [x_wd] at h
  · simp [x_wd] at h
  · exact hq
