section XMN2
variable {E : CtlPost} {e : Env} {d : Bool} {acts : List Action}
/-- an array of ints made, or of arrays -/
theorem mn_new {S : State} {c comp : ClassId} {k : Class} {ty : FieldType} {L : Nat} {v : Value} (hk : S.vm.classes[c]? = some k) (hkind : k.kind = .array comp ty) (hfv : fits ty v = true) (hdv : v.isDefault = true) (h1 : ¬ L > e.platform.arrayLengthLimit) (h2 : ¬ L * componentBytes ty > e.platform.maxHeapBytes) (h3 : S.heap.size < e.platform.maxCells) (h4 : S.slotsUsed + L ≤ e.platform.maxSlots) {Q : Addr → Pre} (hq : Q S.heap.size d acts (S.pushCell (arrV c L (fun _ => v)))) : wp (Jvm.newArray c L v) Q E e d acts S := by
  have hdef : allocActs (Array.replicate L v) S.heap.size acts = acts := by
    have hall : ((Array.replicate L v).all (·.isDefault)) = true := by
      rw [Array.all_replicate]
      split
      · rfl
      · exact hdv
    unfold allocActs
    rw [if_pos hall]
  simp only [Jvm.newArray, Jvm.arrayFits, wp_bind', W.ask, W.ite, h1, if_false, wp_pure', W.theClass, hk, Option.some.injEq, exists_eq_left', hkind, h2, W.alloc]
  rw [if_neg (show ¬ L > e.platform.maxSlots by omega), hdef, arrV_new]
  refine ⟨h3, by simpa using h4, fun i x hx => ?_, hq⟩
  simp only [Array.getElem?_replicate] at hx
  split at hx
  · cases hx
    simp [State.fitsSlot, State.slotType?, hk, hkind, hfv]
  · cases hx
theorem mn_in {S : State} {comp ci : ClassId} {k : Class} {P : Nat} (hP : P ≤ 100) (hk : S.vm.classes[comp]? = some k) (hkind : k.kind = .array ci .int) (h1 : ¬ P > e.platform.arrayLengthLimit) (h2 : ¬ P * componentBytes .int > e.platform.maxHeapBytes) (h3 : S.heap.size < e.platform.maxCells) (h4 : S.slotsUsed + P ≤ e.platform.maxSlots) {Q : Addr → Pre} (hq : Q S.heap.size d acts (S.pushCell (arrV comp P (fun _ => .int 0)))) : wp (Op.multianewarray.make comp [nI P]) Q E e d acts S := by
  have hn : ¬ nI P < 0 := nI_pos (by omega)
  have hc : (nI P).toNatClampNeg = P := nI_clamp (by omega)
  simp only [Op.multianewarray.make, wp_bind', W.ite, hn, if_false, wp_pure', W.theClass, hk, Option.some.injEq, exists_eq_left', hkind, hc]
  exact mn_new hk hkind rfl rfl h1 h2 h3 h4 hq
/-- the states on the way: the outer array, then row after row -/
def mn_T (S : State) (cA comp : ClassId) (N P : Nat) : Nat → State
  | 0 => S.pushCell (arrV cA N (fun _ => .null))
  | j + 1 => ((mn_T S cA comp N P j).pushCell (arrV comp P (fun _ => .int 0))).setCell S.heap.size (arrV cA N (fun i => va_rf (if i < j + 1 then some (S.heap.size + 1 + i) else none)))
theorem mn_vm {S : State} {cA comp : ClassId} {N P : Nat} : ∀ j, (mn_T S cA comp N P j).vm = S.vm
  | 0 => rfl
  | j + 1 => mn_vm j
theorem mn_top {S : State} {cA comp : ClassId} {N P : Nat} : ∀ j, (mn_T S cA comp N P j).topJava? = S.topJava?
  | 0 => rfl
  | j + 1 => mn_top j
theorem mn_heap {S : State} {cA comp : ClassId} {N P : Nat} : ∀ j, (mn_T S cA comp N P j).heap.size = S.heap.size + 1 + j ∧ (mn_T S cA comp N P j).heap[S.heap.size]? = some (arrV cA N (fun i => va_rf (if i < j then some (S.heap.size + 1 + i) else none))) ∧ (∀ i, i < j → (mn_T S cA comp N P j).heap[S.heap.size + 1 + i]? = some (arrV comp P (fun _ => .int 0))) ∧ ∀ x, x < S.heap.size → (mn_T S cA comp N P j).heap[x]? = S.heap[x]?
  | 0 => by
    refine ⟨?_, ?_, fun i hi => absurd hi (Nat.not_lt_zero i), fun x hx => ?_⟩
    · show (S.heap.push _).size = _
      rw [Array.size_push]
    · show (S.heap.push _)[S.heap.size]? = _
      rw [Array.getElem?_push_size]
      rfl
    · show (S.heap.push _)[x]? = _
      rw [Array.getElem?_push_lt hx, Array.getElem?_eq_getElem hx]
  | j + 1 => by
    obtain ⟨h1, h2, h3, h4⟩ := mn_heap (S := S) (cA := cA) (comp := comp) (N := N) (P := P) j
    have hpz : ((mn_T S cA comp N P j).pushCell (arrV comp P (fun _ => .int 0))).heap.size = S.heap.size + 1 + j + 1 := by
      show ((mn_T S cA comp N P j).heap.push _).size = _
      rw [Array.size_push, h1]
    have hold : ∀ x, x < S.heap.size + 1 + j → ((mn_T S cA comp N P j).pushCell (arrV comp P (fun _ => .int 0))).heap[x]? = (mn_T S cA comp N P j).heap[x]? := fun x hx => by
      show ((mn_T S cA comp N P j).heap.push _)[x]? = _
      rw [Array.getElem?_push_lt (by omega), Array.getElem?_eq_getElem (by omega)]
    have hnew : ((mn_T S cA comp N P j).pushCell (arrV comp P (fun _ => .int 0))).heap[S.heap.size + 1 + j]? = some (arrV comp P (fun _ => .int 0)) := by
      show ((mn_T S cA comp N P j).heap.push _)[S.heap.size + 1 + j]? = _
      rw [← h1, Array.getElem?_push_size]
    refine ⟨?_, ?_, fun i hi => ?_, fun x hx => ?_⟩
    · show (State.setCell _ _ _).heap.size = _
      rw [size_setCell, hpz]
      omega
    · have hlt : S.heap.size < ((mn_T S cA comp N P j).pushCell (arrV comp P (fun _ => .int 0))).heap.size := by rw [hpz]; omega
      exact heapAt_setCell_self _ hlt
    · show (State.setCell _ _ _).heap[_]? = _
      have ne : S.heap.size ≠ S.heap.size + 1 + i := by omega
      rw [heapAt_setCell_ne _ ne]
      by_cases e : i = j
      · rw [e]
        exact hnew
      · rw [hold _ (by omega)]
        exact h3 i (by omega)
    · show (State.setCell _ _ _).heap[_]? = _
      have ne : S.heap.size ≠ x := by omega
      rw [heapAt_setCell_ne _ ne, hold x (by omega)]
      exact h4 x hx
theorem mn_set {cA : ClassId} {N j b : Nat} : (arrV cA N (fun i => va_rf (if i < j then some (b + i) else none))).setSlot j (.ref (b + j)) = arrV cA N (fun i => va_rf (if i < j + 1 then some (b + i) else none)) := by
  rw [arrV_store]
  congr 1
  funext i
  simp only [updV]
  by_cases e : i = j
  · rw [if_pos e, if_pos (by omega), e]
    rfl
  · rw [if_neg e]
    by_cases h : i < j
    · rw [if_pos h, if_pos (by omega)]
    · rw [if_neg h, if_neg (by omega)]
theorem mn_make {S : State} {f : JFrame} (hs : S.topJava?.isSome) {cA comp ci : ClassId} {kA kI : Class} {N P : Nat} (hN : N ≤ 100) (hP : P ≤ 100) (hkA : S.vm.classes[cA]? = some kA) (hkindA : kA.kind = .array comp (.array .int)) (hkI : S.vm.classes[comp]? = some kI) (hkindI : kI.kind = .array ci .int) (h1 : ¬ N > e.platform.arrayLengthLimit) (h2 : ¬ N * componentBytes (.array .int) > e.platform.maxHeapBytes) (h3 : ¬ P > e.platform.arrayLengthLimit) (h4 : ¬ P * componentBytes .int > e.platform.maxHeapBytes) (h5 : S.heap.size + (1 + N) ≤ e.platform.maxCells) (h6 : S.slotsUsed + (N + N * P) ≤ e.platform.maxSlots) {Q : Addr → Pre} (hq : ∀ d' acts', Q S.heap.size d' acts' ((mn_T S cA comp N P N).setTop f)) : wp (Op.multianewarray.make cA [nI N, nI P]) Q E e d acts (S.setTop f) := by
  have hn : ¬ nI N < 0 := nI_pos (by omega)
  have hc : (nI N).toNatClampNeg = N := nI_clamp (by omega)
  rw [Op.multianewarray.make]
  simp only [wp_bind', W.ite, hn, if_false, wp_pure', W.theClass, State.vm_setTop, hkA, Option.some.injEq, exists_eq_left', hkindA, hc]
  have hnP : ¬ nI P < 0 := nI_pos (by omega)
  have hfd : List.find? (fun x => decide (x < 0)) [nI P] = none := by simp [List.find?, hnP]
  have hcells : ∀ j, j < N → (mn_T S cA comp N P j).heap.size < e.platform.maxCells := fun j hj => by
    have := (mn_heap (S := S) (cA := cA) (comp := comp) (N := N) (P := P) j).1
    omega
  have hused : ∀ j, (mn_T S cA comp N P j).slotsUsed = S.slotsUsed + N + j * P := by
    intro j
    induction j with
    | zero =>
      show S.slotsUsed + (arrV cA N (fun _ => Value.null)).slots.size = _
      rw [arrV_size]
      omega
    | succ j ih =>
      show (mn_T S cA comp N P j).slotsUsed + (arrV comp P (fun _ => Value.int 0)).slots.size = _
      rw [ih, arrV_size, Nat.succ_mul]
      omega
  refine mn_new (S := S.setTop f) (by rw [State.vm_setTop]; exact hkA) hkindA rfl rfl h1 h2 (by show S.heap.size < _; omega) (by show S.slotsUsed + N ≤ _; omega) ?_
  simp only [hfd, ite_self, wp_bind', wp_pure']
  rw [Std.Legacy.Range.forIn_eq_forIn_range']
  refine wp_forIn_inv (I := fun l s' => ∃ j, j ≤ N ∧ l = List.range' j (N - j) ∧ s' = (mn_T S cA comp N P j).setTop f) _ _ ⟨0, Nat.zero_le N, by simp [Std.Legacy.Range.size], rfl⟩ (fun x rest s' d' acts' Q' hI hy => ?_) (fun s' d' acts' hI => ?_)
  · obtain ⟨j, hj, hl, rfl⟩ := hI
    obtain ⟨m, hm⟩ : ∃ m, N - j = m + 1 := by
      cases hz : N - j with
      | zero => rw [hz] at hl; simp at hl
      | succ m => exact ⟨m, rfl⟩
    rw [hm, List.range'_succ] at hl
    injection hl with hx hrest
    subst hx
    have hsz := (mn_heap (S := S) (cA := cA) (comp := comp) (N := N) (P := P) x).1
    have hx1 : x < N := by omega
    have hmul : (x + 1) * P ≤ N * P := Nat.mul_le_mul_right P hx1
    rw [Nat.succ_mul] at hmul
    simp only [wp_bind', wp_pure', W.writeLoc]
    refine mn_in (S := (mn_T S cA comp N P x).setTop f) (comp := comp) hP (by show (mn_T S cA comp N P x).vm.classes[comp]? = some kI; rw [mn_vm]; exact hkI) hkindI h3 h4 (hcells x hx1) (by show (mn_T S cA comp N P x).slotsUsed + P ≤ _; rw [hused]; omega) ?_
    refine ⟨arrV cA N (fun i => va_rf (if i < x then some (S.heap.size + 1 + i) else none)), ?_, by simp [arrV], by rw [arrV_size]; exact hx1, ?_, ?_⟩
    · show ((mn_T S cA comp N P x).heap.push _)[S.heap.size]? = _
      rw [Array.getElem?_push_lt (by omega), ← Array.getElem?_eq_getElem (by omega)]
      exact (mn_heap x).2.1
    · have hv : (mn_T S cA comp N P x).vm.classes[cA]? = some kA := by rw [mn_vm]; exact hkA
      show (mn_T S cA comp N P x).fitsSlot cA .none x (.ref _) = true
      simp [State.fitsSlot, State.slotType?, hv, hkindA, fits]
    · refine hy _ _ _ ⟨x + 1, by omega, by rw [hrest]; congr 1; omega, ?_⟩
      have e1 : ((mn_T S cA comp N P x).setTop f).heap.size = S.heap.size + 1 + x := hsz
      dsimp only
      rw [e1, mn_set]
      rfl
  · obtain ⟨j, hj, hl, rfl⟩ := hI
    have : j = N := by
      cases hz : N - j with
      | zero => omega
      | succ m => rw [hz, List.range'_succ] at hl; cases hl
    subst this
    exact hq _ _
theorem mn_sem {S : State} {f : JFrame} (hs : S.topJava?.isSome) {index : Nat} {rest : List Value} {cA comp ci : ClassId} {kA kI : Class} {N P : Nat} (hr : S.vm.classReady f.method.cls index cA) (hstack : f.stack = .int (nI P) :: .int (nI N) :: rest) (hN : N ≤ 100) (hP : P ≤ 100) (hkA : S.vm.classes[cA]? = some kA) (hkindA : kA.kind = .array comp (.array .int)) (hkI : S.vm.classes[comp]? = some kI) (hkindI : kI.kind = .array ci .int) (h1 : ¬ N > e.platform.arrayLengthLimit) (h2 : ¬ N * componentBytes (.array .int) > e.platform.maxHeapBytes) (h3 : ¬ P > e.platform.arrayLengthLimit) (h4 : ¬ P * componentBytes .int > e.platform.maxHeapBytes) (h5 : S.heap.size + (1 + N) ≤ e.platform.maxCells) (h6 : S.slotsUsed + (N + N * P) ≤ e.platform.maxSlots) {Q : Unit → Pre} (hq : ∀ acts', Q () true acts' ((mn_T S cA comp N P N).setTop { f with stack := .ref S.heap.size :: rest })) : wp (Op.multianewarray.sem index 2) Q E e d acts (S.setTop f) := by
  simp only [Op.multianewarray.sem, wp_bind', W.resolveClassAt_ready (State.method?_setTop f hs) hr]
  rw [W.popN, if_neg (by decide)]
  refine ⟨f, State.topJava?_setTop' _ hs, [.int (nI N), .int (nI P)], rest, rfl, hstack, ?_⟩
  simp only [List.mapM_cons, List.mapM_nil, wp_bind', wp_pure', State.setTop_setTop]
  refine mn_make hs hN hP hkA hkindA hkI hkindI h1 h2 h3 h4 h5 h6 (fun d' acts' => ?_)
  have ht : (mn_T S cA comp N P N).topJava?.isSome := by rw [mn_top]; exact hs
  refine ⟨_, State.topJava?_setTop' _ ht, ?_⟩
  rw [State.setTop_setTop]
  exact hq acts'
theorem mn_cold {S : State} {f : JFrame} {index k c : Nat} {vm' : Vm} {Q : Unit → Pre} (hs : S.topJava?.isSome) (hg : (Jvm.resolveClass f.method.cls index).Gives e.toSetting S.vm (.ok c) vm') (hr : vm'.classReady f.method.cls index c) (hsz : vm'.classes.size ≤ S.vm.classes.size) :
    wp (Op.multianewarray.sem index k) Q E e d acts (S.setTop f) ↔ wp (Op.multianewarray.sem index k) Q E e d acts ((S.setVm vm').setTop f) := by
  simp only [Op.multianewarray.sem, wp_bind']
  exact W.resolveClassAt_transfer (s := S.setTop f) (State.method?_setTop f hs) hg hr hsz
end XMN2
section XMNA2
variable {p : Program} {l : Launch} {e : Env} {R : Room} {s : State} {m : MethodId} {args : Array Value} {below : List Frame} {meth : Method} {c : Code} {H : Heap} {locs : List Loc} {cells slots : Nat} {Q : State → Prop}
theorem mn_stand {T : State} {cA comp : ClassId} {N P : Nat} (X : Stand p l e R s m args below meth c T locs cells slots) (hsz : s.heap.size ≤ T.heap.size) : ∀ j, Stand p l e R s m args below meth c (mn_T T cA comp N P j) locs (cells + 1 + j) (slots + N + j * P)
  | 0 => by
    have := X.pushed (arrV cA N (fun _ => Value.null))
    rw [arrV_size] at this
    rw [Nat.zero_mul, Nat.add_zero, Nat.add_zero]
    exact this
  | j + 1 => by
    have X1 := (mn_stand X hsz j (cA := cA) (comp := comp) (N := N) (P := P)).pushed (arrV comp P (fun _ => Value.int 0))
    rw [arrV_size] at X1
    obtain ⟨h1, h2, -, -⟩ := mn_heap (S := T) (cA := cA) (comp := comp) (N := N) (P := P) j
    have hcell : ((mn_T T cA comp N P j).pushCell (arrV comp P (fun _ => Value.int 0))).heap[T.heap.size]? = some (arrV cA N (fun i => va_rf (if i < j then some (T.heap.size + 1 + i) else none))) := by
      show ((mn_T T cA comp N P j).heap.push _)[T.heap.size]? = _
      rw [Array.getElem?_push_lt (by omega), ← Array.getElem?_eq_getElem (by omega)]
      exact h2
    have X2 := (X1.stored hcell j (.ref (T.heap.size + 1 + j))).forget (fun y hy => by rw [List.mem_singleton.mp hy]; exact hsz)
    rw [mn_set] at X2
    have e2 : slots + N + (j + 1) * P = slots + N + j * P + P := by rw [Nat.succ_mul]; omega
    rw [e2]
    exact X2
theorem x_mna2 {cc : ByteArray} {pc : Nat} {ls : Array Slot} {rest : List Value} (hexec : p.tables.exec = Jvm.exec) (hb : c.code = cc) {own : String} {index : Nat} (hown : s.vm.findClass own = some m.cls) (hclink : (Cond.classLink own index "[[I").before args s = true) (hAA : x_AA s) (harr : (Cond.arrayClass .int).before args s = true) {N P : Nat} (hN : N ≤ 100) (hP : P ≤ 100) (hcells : cells + (1 + N) ≤ R.cells) (hslots : slots + (N + N * P) ≤ R.slots) (hsz : s.heap.size ≤ H.size) (hdg : decode cc pc = .ok (.multianewarray index 2, 4))
    (kk : ∀ (H1 : Heap) (cA comp : ClassId), s.vm.findClass "[[I" = some cA → s.vm.findClass "[I" = some comp → H1.size = H.size + 1 + N → (∀ x : Nat, x < H.size → H1[x]? = H[x]?) → H1[H.size]? = some (arrV cA N (fun j => va_rf (if j < N then some (H.size + 1 + j) else none))) → (∀ j, j < N → H1[H.size + 1 + j]? = some (arrV comp P (fun _ => .int 0))) → W p l e R s m args below meth c H1 locs (cells + 1 + N) (slots + N + N * P) Q (F0 m (pc + 4) ls (.ref H.size :: rest))) :
    W p l e R s m args below meth c H locs cells slots Q (F0 m pc ls (.int (nI P) :: .int (nI N) :: rest)) := by
  intro T hT X
  subst hT
  subst hb
  have hpl : e.platform.magicAccessors = ({} : Platform).magicAccessors := by rw [X.admits.platform]
  obtain ⟨comp, cA, kA, a1, a2, a3, a4⟩ := hAA
  obtain ⟨cI, kI, ci, f1, f2, f3⟩ := Cond.arrayClass_spec harr
  have ec : cI = comp := Option.some.inj (f1.symm.trans a1)
  subst ec
  obtain ⟨cc', hfcc, hcl⟩ := Cond.classLink_spec hown hclink e.platform hpl
  cases a4.symm.trans hfcc
  obtain ⟨hg₁, hwarm₁, hready₁⟩ := State.classEntry (e := e) X.warmed hcl
  generalize T.vm.noted m.cls index (.cls cA) = vm₁ at hg₁ hwarm₁ hready₁
  have hal : s.vm.Alike vm₁ := hwarm₁.alike
  obtain ⟨kA₁, hkA₁, heA⟩ := hal.2.2 _ _ a2
  obtain ⟨kI₁, hkI₁, heI⟩ := hal.2.2 _ _ f2
  have hkindA₁ : kA₁.kind = .array cI (.array .int) := by rw [heA]; exact a3
  have hkindI₁ : kI₁.kind = .array ci .int := by rw [heI]; exact f3
  have hlim : ∀ n, n ≤ 100 → ¬ n > e.platform.arrayLengthLimit := fun n hn => by rw [Launch.admits_arrayLengthLimit X.admits]; omega
  have hhp : ∀ n b, n ≤ 100 → b ≤ 8 → ¬ n * b > e.platform.maxHeapBytes := fun n b hn hb => by
    rw [Launch.admits_maxHeapBytes X.admits]
    have : n * b ≤ 100 * 8 := Nat.mul_le_mul hn hb
    show ¬ n * b > 536870912
    omega
  have X₁ := X.noted hwarm₁
  obtain ⟨hr1, hr2⟩ := X.roomAbove hcells hslots
  have XN := mn_stand X₁ hsz (cA := cA) (comp := cI) (N := N) (P := P) N
  obtain ⟨g1, g2, g3, g4⟩ := mn_heap (S := T.setVm vm₁) (cA := cA) (comp := cI) (N := N) (P := P) N
  obtain ⟨t', st', q'⟩ := kk (mn_T (T.setVm vm₁) cA cI N P N).heap cA cI a4 a1 g1 g4 g2 g3 (mn_T (T.setVm vm₁) cA cI N P N) rfl XN
  refine ⟨t', ?_, q'⟩
  jvm_step X.here [hexec, hdg]
  rw [mn_cold (S := T) X.here.top hg₁ hready₁ (by no_record)]
  refine mn_sem (S := T.setVm vm₁) (f := F0 m pc ls (.int (nI P) :: .int (nI N) :: rest)) (rest := rest) X.here.top hready₁ rfl hN hP hkA₁ hkindA₁ hkI₁ hkindI₁ (hlim N hN) (hhp N 4 hN (by decide)) (hlim P hP) (hhp P 4 hP (by decide)) hr1 hr2 (fun acts' acts => ?_)
  rw [afterInstr_ok]
  exact st'
end XMNA2
