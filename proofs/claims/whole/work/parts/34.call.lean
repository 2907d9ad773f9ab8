/-! CALLS: a callee's walk is its contract -/
theorem x_AA_moved {u U : State} (hvm : u.vm.Alike U.vm) (h : x_AA u) : x_AA U := by
  obtain ⟨comp, c, k, h1, h2, h3, h4⟩ := h
  obtain ⟨k', hk', he⟩ := hvm.2.2 _ _ h2
  exact ⟨comp, c, k', by rw [hvm.findClass]; exact h1, hk', by rw [he]; exact h3, by rw [hvm.findClass]; exact h4⟩
theorem x_ex_moved {s U : State} (hW : s.WarmedH U.vm) (h : x_ex s) : x_ex U := by
  refine ⟨fun w hw hn => ?_, h.2.1.moved hW.alike, x_AA_moved hW.alike h.2.2⟩
  have h1 := h.1 w hw hn
  cases w <;> first | exact va_Nw.warmM hW h1 | exact absurd hn (by simp [x_nw])
theorem x_ex_same {s U : State} (hW : s.vm = U.vm) (h : x_ex s) : x_ex U := by
  refine ⟨fun w hw hn => ?_, h.2.1.moved (by rw [hW]; exact Vm.Alike.refl _), x_AA_moved (by rw [hW]; exact Vm.Alike.refl _) h.2.2⟩
  have h1 := h.1 w hw hn
  cases w <;> first | exact va_Nw.same rfl hW h1 | exact absurd hn (by simp [x_nw])
def x_Qc {S : Type} (post : Option Value → S → Prop) (B : S → State → Prop) (A : Nat → Prop) : Array Value → State → Outcome → State → Prop := fun _ st oc t => (∃ (v : Option Value) (u : S), oc = .returned v ∧ post v u ∧ B u t) ∧ va_F A st t
section XC
variable {p : Program} {l : Launch} {e : Env} {R : Room} {s : State} {m : MethodId} {args : Array Value} {below : List Frame} {meth : Method} {c : Code} {H : Heap} {locs : List Loc} {cells slots : Nat} {Q : State → Prop}
variable {pc : Nat} {ls : Array Slot} {rest st0 : List Value} {a : Array Value} {A0 A1 : Nat → Prop} {H0 : Heap} {mc ms : Nat} {free : Addr → Prop}
theorem x_callW {S : Type} {post : Option Value → S → Prop} {B : S → State → Prop} (hr : va_Run p l e R s m args below meth c H locs cells slots mc ms (F0 m pc ls st0) rest (x_Qc post B A1 a) free) (hS : va_S A0 H0 H locs) (hA : ∀ q, q < H.size → A1 q → A0 q) (hf : ∀ q, free q → A0 q)
    (kk : ∀ (v : Option Value) (u : S) (t : State) (H1 : Heap) (locs1 : List Loc), t.heap = H1 → s.vm.Alike t.vm → post v u → B u t → va_S A0 H0 H1 locs1 → W p l e R s m args below meth c H1 locs1 (cells + mc) (slots + ms) Q (F0 m (pc + 3) ls (v.toList ++ rest))) : W p l e R s m args below meth c H locs cells slots Q (F0 m pc ls st0) := by
  intro T hT X
  obtain ⟨v, st₀, t, T', L, h0, X', hL, e1, e2, ⟨⟨r, u, hv, hp, hb⟩, hz, hk⟩, st⟩ := hr T hT X
  cases hv
  rw [h0] at hz hk
  obtain ⟨t2, a1, b1⟩ := kk v u t T'.heap (locs ++ L) e1.symm (by rw [← e2]; exact X'.warmed.alike) hp hb
    ⟨Nat.le_trans hS.1 (by rw [e1]; exact hz), fun q h1 h2 => by rw [e1, hk q (Nat.lt_of_lt_of_le h1 hS.1) (fun z => h2 (hA q (Nat.lt_of_lt_of_le h1 hS.1) z))]; exact hS.2.1 q h1 h2, fun q hq => by
      rcases List.mem_append.mp hq with h | h
      · exact hS.2.2 q h
      · exact hf _ (hL q h)⟩ T' rfl X'
  exact ⟨t2, st t2 a1, b1⟩
end XC
def x_ws (a : Nat) (M : xM) : List Jvm.Cond := Cond.code (x_y a) (x_by a) M.2.2.1 (x_rty M.2.2.2.2.1) :: x_tbl
def x_rm (M : xM) : Room := { frames := M.2.2.2.2.2.1.1, cells := M.2.2.2.2.2.1.2.2.1, slots := M.2.2.2.2.2.1.2.2.2, locals := M.2.2.2.2.2.1.2.1 }
abbrev xU := xG × xS × xL × (Nat → Nat)
def x_post (Q : xQ) (v : Option Value) (u : xU) : Prop := Q v u.1 u.2.1 u.2.2.1 ∧ ∀ (ad : Nat → Nat) (x : Value), v = some x → x_cv ad x = x
def x_B (M : xM) (kc : Nat → ClassId) (D : va_G) (ad : Nat → Nat) (n : Nat) (A : Nat → Prop) (u : xU) (t : State) : Prop := x_W kc D A u.2.2.2 u.1 u.2.1 u.2.2.1 t.heap ∧ (∀ k, k < n → u.2.2.2 k = ad k) ∧ n ≤ u.1.1.length ∧ (M.2.2.2.2.2.1.2.2.1 = 0 → u.2.2.2 = ad)
/-- what is known of a callee -/
theorem x_cal {a : Nat} {M : xM} (h : x_nth x_tab a = some M) : x_okM M = true ∧ x_cok a M = true := by
  constructor
  · rw [x_nth_get] at h
    exact x_tab_ok M (List.mem_of_getElem? h)
  · have := x_allI_at x_tab 0 a M x_tab_cok h
    rwa [Nat.zero_add] at this
theorem x_cok_all {a : Nat} {M : xM} (h : x_cok a M = true) : M.1 = a ∧ Cond.code (x_y a) (x_by a) M.2.2.1 (x_rty M.2.2.2.2.1) ∈ x_tbl ∧ Cond.initialized (x_y a).cls ∈ x_tbl ∧ (x_y a).cls = x_cn M.2.1 ∧ Jvm.plainName (x_y a).cls = true ∧ ((x_y a).cls ≠ "java/lang/invoke/MethodHandle" ∧ (x_y a).cls ≠ "java/lang/invoke/VarHandle") ∧
    (x_kd a = 1 → Cond.static (x_y a) ∈ x_tbl ∧ (parseMethodDescriptor (x_y a).desc).map (fun d => d.parameters.length) = some M.2.2.2.1) ∧
    (x_kd a = 0 → Cond.instanceMethod (x_y a) ∈ x_tbl ∧ Cond.selects (x_y a).cls (x_y a) (x_y a) ∈ x_tbl ∧ (parseMethodDescriptor (x_y a).desc).map (fun d => d.parameters.length + 1) = some M.2.2.2.1 ∧ M.2.1 < 8) ∧
    (x_kd a = 2 → Cond.instanceMethod (x_y a) ∈ x_tbl ∧ (x_y a).name = "<init>" ∧ (parseMethodDescriptor (x_y a).desc).map (fun d => d.parameters.length + 1) = some M.2.2.2.1 ∧ M.2.1 < 8 ∧ M.2.2.2.2.1 = 0) := by
  unfold x_cok at h
  cases hq : x_nth x_cp a with
  | none => rw [hq] at h; cases h
  | some r =>
    obtain ⟨pc, pi, pm, ps, kd⟩ := r
    have hkd : x_kd a = kd := by unfold x_kd; rw [hq]
    rw [hq] at h
    dsimp only at h
    obtain ⟨a1, h⟩ := x_ok3 h
    obtain ⟨a2, h⟩ := x_ok3 h
    obtain ⟨a3, h⟩ := x_ok3 h
    obtain ⟨a4, h⟩ := x_ok3 h
    obtain ⟨a5, h⟩ := x_ok3 h
    obtain ⟨a6, h⟩ := x_ok3 h
    rw [hkd]
    refine ⟨Nat.eq_of_beq_eq_true a1, x_has_in a2 rfl, x_has_in a3 rfl, of_decide_eq_true a4, a5, of_decide_eq_true a6, ?_, ?_, ?_⟩
    · rintro rfl
      obtain ⟨b1, h⟩ := x_ok3 h
      obtain ⟨b2, h⟩ := x_ok3 h
      exact ⟨x_has_in b1 rfl, of_decide_eq_true b2⟩
    · rintro rfl
      obtain ⟨b1, h⟩ := x_ok3 h
      obtain ⟨b2, h⟩ := x_ok3 h
      obtain ⟨b3, h⟩ := x_ok3 h
      exact ⟨x_has_in b1 rfl, x_has_in b2 rfl, of_decide_eq_true b3, Nat.le_of_ble_eq_true h⟩
    · rintro rfl
      obtain ⟨b1, h⟩ := x_ok3 h
      obtain ⟨b2, h⟩ := x_ok3 h
      obtain ⟨b3, h⟩ := x_ok3 h
      obtain ⟨b4, h⟩ := x_ok3 h
      exact ⟨x_has_in b1 rfl, of_decide_eq_true b2, of_decide_eq_true b3, Nat.le_of_ble_eq_true b4, Nat.eq_of_beq_eq_true h⟩
theorem x_tbl_good {w : Jvm.Cond} (h : w ∈ x_tbl) : goodWord w = true := (List.mem_filter.mp h).2
theorem x_ws_good {a : Nat} {M : xM} (h : x_cok a M = true) : GoodIn x_tbl (x_ws a M) := by
  intro w hw
  have hm : w ∈ x_tbl := by
    rcases List.mem_cons.mp hw with rfl | hw
    · exact (x_cok_all h).2.1
    · exact hw
  exact ⟨hm, good_of_word (x_tbl_good hm)⟩
set_option maxHeartbeats 1000000 in
/-- the contract of a method, out of its walk -/
theorem x_met (l : Launch) {a : Nat} {M : xM} (hM : x_nth x_tab a = some M) {as : List Value} {g : xG} {σ : xS} {τ : xL} {Q : xQ} (h : x_snd l M 0 (x_loc as M.2.2.1) [] (g.1, g.2.1, 0, 0) σ τ Q) (hw : x_words as ≤ M.2.2.1) (hml0 : M.2.2.1 < 1000) (D : va_G) (kc : Nat → ClassId) (ad : Nat → Nat) (sz : Nat) :
    Met l (x_y a) (x_ws a M) (x_rm M) (va_Pc (as.map (x_cv ad)) (fun U => U.heap.size = sz ∧ x_W kc D (fun _ => True) ad g σ τ U.heap ∧ va_K D x_cl (x_tys kc) U ∧ x_ex U)) (x_Qc (x_post Q) (x_B M kc D ad g.1.length (va_A (x_wd kc ad g.1 g.2.1 σ τ) sz)) (va_A (x_wd kc ad g.1 g.2.1 σ τ) sz)) M.2.2.2.2.2.1.2.2.1 M.2.2.2.2.2.1.2.2.2 (va_A (x_wd kc ad g.1 g.2.1 σ τ) sz) := by
  obtain ⟨hok, hcok⟩ := x_cal hM
  obtain ⟨c1, c2, c3, c4, c5, c6, -, -, -⟩ := x_cok_all hcok
  have hlaw : M.1 ≠ 226 := by
    have h1 := x_nth_lt hM
    have h2 : x_tab.length = 226 := by decide +kernel
    omega
  refine Met.ofW (cc := x_by a) (maxL := M.2.2.1) (ret := x_rty M.2.2.2.2.1) c5 rfl ?_
  intro p e s m args below meth c s₁ B hml hv
  obtain ⟨rfl, hsz, hW, hK, hex⟩ := hv
  have hts0 := atoms_spec (ws := x_ws a M) B.pre
  have hts : ∀ w ∈ x_tbl, w.before (as.map (x_cv ad)).toArray s = true := fun w hw => hts0 w (List.mem_cons_of_mem _ hw)
  have hown : s.vm.findClass (x_cn M.2.1) = some m.cls := by
    rw [← c4]
    exact findClass_of_methodNamed B.named
  have hlocks := B.notSynchronized
  have hr := B.returns
  subst hsz
  have hD := hW.2.1.self (sz := s.heap.size)
  generalize hAe : va_A (x_wd kc ad g.1 g.2.1 σ τ) s.heap.size = A at hD ⊢
  have hA : ∀ q : Nat, s.heap.size ≤ q → A q := fun q h => by rw [← hAe]; exact Or.inr h
  have hl := lv_entry (as.map (x_cv ad)) (n := M.2.2.1) (by rw [x_words_sl as (by omega)]; exact hw)
  rw [lg_entry_eq]
  refine h hok p e _ s m _ below meth c ⟨B.exec, by rw [B.bytes, c1], hml, hown, hts, fun hn => ?_, Nat.le_refl _, Nat.le_refl _, Nat.le_refl _, Nat.le_refl _⟩ D kc A _ g.1.length ad hK hex hA (fun q => absurd q hlaw) ?_ ad s.heap [] _ ⟨hW.1, hD, hW.2.2⟩ va_S.rf ⟨fun _ _ => rfl, Nat.le_refl _, fun _ => rfl, Nat.zero_le _, Nat.zero_le _⟩ ⟨hl.1, hl.2.1, fun q hq => hl.2.2 q (x_loc_as as M.2.2.1 0 hw hml0 q hq)⟩
  · have := (name_of_methodNamed B.named B.method).1
    rw [this, ← c1]
    exact hn
  · intro r g' σ' τ' ad' H locs arr pc hQ hW' hS hag hrt
    refine W.widen hag.2.2.2.1 hag.2.2.2.2 ?_
    have post : ∀ (v : Option Value), v = r → (∀ (ad : Nat → Nat) (x : Value), v = some x → x_cv ad x = x) → ∀ t : State, t.heap = H → s.WarmedH t.vm → x_Qc (x_post Q) (x_B M kc D ad g.1.length A) A (as.map (x_cv ad)).toArray s (.returned v) t := by
      intro v hv hn t ht hWt
      refine ⟨⟨v, (g', σ', τ', ad'), rfl, ⟨by rw [hv]; exact hQ, hn⟩, ⟨by rw [ht]; exact hW', hag.1, hag.2.1, hag.2.2.1⟩⟩, hS.F ht⟩
    cases r with
    | none =>
      obtain ⟨r1, r2⟩ := hrt
      rw [r1] at hr
      rw [c1] at r2
      exact W.vret B.exec B.bytes hr (post none rfl (fun _ _ q => by cases q)) hS.2.2 r2
    | some x =>
      cases x with
      | int x =>
        obtain ⟨r1, r2⟩ := hrt
        rw [c1] at r1
        rcases r2 with r2 | ⟨r2, r3⟩
        · rw [r2] at hr
          exact W.iret B.exec B.bytes hr (post _ rfl (fun _ y q => by cases q; rfl)) hS.2.2 r1
        · rw [r2] at hr
          exact W.zret (ty := .boolean) B.exec B.bytes hr (by rcases r3 with rfl | rfl <;> decide) (post _ rfl (fun _ y q => by cases q; rfl)) hS.2.2 r1
      | long x =>
        obtain ⟨r1, r2⟩ := hrt
        rw [r1] at hr
        rw [c1] at r2
        exact W.lret B.exec B.bytes hr (post _ rfl (fun _ y q => by cases q; rfl)) hS.2.2 r2
      | _ => exact False.elim hrt
