/-! SOUNDNESS: what the small machine does, the machine does. -/
def x_fc (p : Program) (s : State) (m : MethodId) (args : Array Value) (meth : Method) (c : Code) (R : Room) (M : xM) : Prop :=
  p.tables.exec = Jvm.exec ∧ c.code = x_by M.1 ∧ c.maxLocals = M.2.2.1 ∧ s.vm.findClass (x_cn M.2.1) = some m.cls ∧ (∀ w ∈ x_tbl, w.before args s = true) ∧ ((x_y M.1).name = "<init>" → meth.name = "<init>") ∧
    M.2.2.2.2.2.1.1 ≤ R.frames ∧ M.2.2.2.2.2.1.2.1 ≤ R.locals ∧ M.2.2.2.2.2.1.2.2.1 ≤ R.cells ∧ M.2.2.2.2.2.1.2.2.2 ≤ R.slots
def x_ag (M : xM) (n0 : Nat) (ad0 ad : Nat → Nat) (g : xG) : Prop :=
  (∀ k, k < n0 → ad k = ad0 k) ∧ n0 ≤ g.1.length ∧ (M.2.2.2.2.2.1.2.2.1 = 0 → ad = ad0) ∧ g.2.2.1 ≤ M.2.2.2.2.2.1.2.2.1 ∧ g.2.2.2 ≤ M.2.2.2.2.2.1.2.2.2
def x_rt (M : xM) (pc : Nat) : Option Value → Prop
  | none => M.2.2.2.2.1 = 0 ∧ decode (x_by M.1) pc = .ok (.return_, 1)
  | some (.int x) => decode (x_by M.1) pc = .ok (.ireturn, 1) ∧ (M.2.2.2.2.1 = 1 ∨ (M.2.2.2.2.1 = 2 ∧ (x = 0 ∨ x = 1)))
  | some (.long _) => M.2.2.2.2.1 = 3 ∧ decode (x_by M.1) pc = .ok (.lreturn, 1)
  | _ => False
def x_hret (p : Program) (l : Launch) (e : Env) (R : Room) (s : State) (m : MethodId) (args : Array Value) (below : List Frame) (meth : Method) (c : Code) (D : va_G) (kc : Nat → ClassId) (A : Nat → Prop) (Z : State → Prop) (n0 : Nat) (ad0 : Nat → Nat) (M : xM) (Q : xQ) : Prop :=
  ∀ (r : Option Value) (g : xG) (σ : xS) (τ : xL) (ad : Nat → Nat) (H : Heap) (locs : List Loc) (arr : Array Slot) (pc : Nat), Q r g σ τ → x_W kc D A ad g σ τ H → va_S A s.heap H locs → x_ag M n0 ad0 ad g → x_rt M pc r → W p l e R s m args below meth c H locs g.2.2.1 g.2.2.2 Z (F0 m pc arr r.toList)
def x_nw : Jvm.Cond → Bool
  | .methodLinkNest .. => true
  | _ => false
/-- what the table says besides: links between nest mates, arrays over a class -/
def x_AA (U : State) : Prop := ∃ (comp c : ClassId) (k : Class), U.vm.findClass "[I" = some comp ∧ U.vm.classes[c]? = some k ∧ k.kind = .array comp (.array .int) ∧ U.vm.findClass "[[I" = some c
def x_ex (U : State) : Prop := (∀ w ∈ lw_tbl, x_nw w = true → va_Nw w U) ∧ va_AO "SnowTracks$Pass" U ∧ x_AA U
def x_scr (M : xM) (s : State) (A : Nat → Prop) : Prop := M.1 = 226 → va_X M.2.2.2.1 M.2.2.2.2.2.2.2.1 M.2.2.2.2.2.2.2.2 s s.heap ∧ M.2.2.2.1 < s.heap.size ∧ ¬ A M.2.2.2.1
def x_snd (l : Launch) (M : xM) (pc : Nat) (ls st : List Value) (g : xG) (σ : xS) (τ : xL) (Q : xQ) : Prop :=
  x_okM M = true → ∀ (p : Program) (e : Env) (R : Room) (s : State) (m : MethodId) (args : Array Value) (below : List Frame) (meth : Method) (c : Code), x_fc p s m args meth c R M →
    ∀ (D : va_G) (kc : Nat → ClassId) (A : Nat → Prop) (Z : State → Prop) (n0 : Nat) (ad0 : Nat → Nat), va_K D x_cl (x_tys kc) s → x_ex s → (∀ q, s.heap.size ≤ q → A q) → x_scr M s A → x_hret p l e R s m args below meth c D kc A Z n0 ad0 M Q →
    ∀ (ad : Nat → Nat) (H : Heap) (locs : List Loc) (arr : Array Slot), x_W kc D A ad g σ τ H → va_S A s.heap H locs → x_ag M n0 ad0 ad g → x_lr ad ls arr M.2.2.1 →
    W p l e R s m args below meth c H locs g.2.2.1 g.2.2.2 Z (F0 m pc arr (st.map (x_cv ad)))
set_option maxHeartbeats 1000000 in
theorem xs_iadd (l : Launch) {M : xM} {pc len a b : Nat} {v : Value} {ls st : List Value} {g : xG} {σ : xS} {τ : xL} {Q : xQ} {raw : Instr} (hd : decode (x_by M.1) pc = .ok (raw, len)) (hi : x_oki (M.1, M.2.1, M.2.2.1, M.2.2.2.2.2.1) pc raw len .iadd a b v = true)
    (h : x_stp M .iadd (pc + len) a b v ls st g σ τ (fun pc ls st g σ τ => x_snd l M pc ls st g σ τ Q) Q (fun M' as g σ τ Q' => x_snd l M' 0 (x_loc as M'.2.2.1) [] g σ τ Q')) : x_snd l M pc ls st g σ τ Q := by
  intro hok p e R s m args below meth c fc D kc A Z n0 ad0 hK hex hA hscr hret ad H locs arr hW hS hag hl
  have go : ∀ {pc' : Nat} {ls' st' : List Value} {g' : xG} {σ' : xS} {τ' : xL}, x_snd l M pc' ls' st' g' σ' τ' Q → ∀ (ad' : Nat → Nat) (H' : Heap) (locs' : List Loc) (arr' : Array Slot), x_W kc D A ad' g' σ' τ' H' → va_S A s.heap H' locs' → x_ag M n0 ad0 ad' g' → x_lr ad' ls' arr' M.2.2.1 → W p l e R s m args below meth c H' locs' g'.2.2.1 g'.2.2.2 Z (F0 m pc' arr' (st'.map (x_cv ad'))) := fun k ad' H' locs' arr' w1 w2 w3 w4 => k hok p e R s m args below meth c fc D kc A Z n0 ad0 hK hex hA hscr hret ad' H' locs' arr' w1 w2 w3 w4
  obtain ⟨hx, hb, hml, hown, hts, hini, hr1, hr2, hr3, hr4⟩ := id fc
  obtain ⟨rfl, rfl⟩ := x_ok1 (i := .iadd) hi
  rcases st with _ | ⟨(x | _ | _ | _ | _ | _ | _), st⟩ <;> first | exact False.elim h | skip
  rcases st with _ | ⟨(y | _ | _ | _ | _ | _ | _), st⟩ <;> first | exact False.elim h | skip
  exact lv_iadd hx hb hd (go h ad H locs arr hW hS hag hl)
set_option maxHeartbeats 1000000 in
theorem xs_isub (l : Launch) {M : xM} {pc len a b : Nat} {v : Value} {ls st : List Value} {g : xG} {σ : xS} {τ : xL} {Q : xQ} {raw : Instr} (hd : decode (x_by M.1) pc = .ok (raw, len)) (hi : x_oki (M.1, M.2.1, M.2.2.1, M.2.2.2.2.2.1) pc raw len .isub a b v = true)
    (h : x_stp M .isub (pc + len) a b v ls st g σ τ (fun pc ls st g σ τ => x_snd l M pc ls st g σ τ Q) Q (fun M' as g σ τ Q' => x_snd l M' 0 (x_loc as M'.2.2.1) [] g σ τ Q')) : x_snd l M pc ls st g σ τ Q := by
  intro hok p e R s m args below meth c fc D kc A Z n0 ad0 hK hex hA hscr hret ad H locs arr hW hS hag hl
  have go : ∀ {pc' : Nat} {ls' st' : List Value} {g' : xG} {σ' : xS} {τ' : xL}, x_snd l M pc' ls' st' g' σ' τ' Q → ∀ (ad' : Nat → Nat) (H' : Heap) (locs' : List Loc) (arr' : Array Slot), x_W kc D A ad' g' σ' τ' H' → va_S A s.heap H' locs' → x_ag M n0 ad0 ad' g' → x_lr ad' ls' arr' M.2.2.1 → W p l e R s m args below meth c H' locs' g'.2.2.1 g'.2.2.2 Z (F0 m pc' arr' (st'.map (x_cv ad'))) := fun k ad' H' locs' arr' w1 w2 w3 w4 => k hok p e R s m args below meth c fc D kc A Z n0 ad0 hK hex hA hscr hret ad' H' locs' arr' w1 w2 w3 w4
  obtain ⟨hx, hb, hml, hown, hts, hini, hr1, hr2, hr3, hr4⟩ := id fc
  obtain ⟨rfl, rfl⟩ := x_ok1 (i := .isub) hi
  rcases st with _ | ⟨(x | _ | _ | _ | _ | _ | _), st⟩ <;> first | exact False.elim h | skip
  rcases st with _ | ⟨(y | _ | _ | _ | _ | _ | _), st⟩ <;> first | exact False.elim h | skip
  exact lv_isub hx hb hd (go h ad H locs arr hW hS hag hl)
set_option maxHeartbeats 1000000 in
theorem xs_imul (l : Launch) {M : xM} {pc len a b : Nat} {v : Value} {ls st : List Value} {g : xG} {σ : xS} {τ : xL} {Q : xQ} {raw : Instr} (hd : decode (x_by M.1) pc = .ok (raw, len)) (hi : x_oki (M.1, M.2.1, M.2.2.1, M.2.2.2.2.2.1) pc raw len .imul a b v = true)
    (h : x_stp M .imul (pc + len) a b v ls st g σ τ (fun pc ls st g σ τ => x_snd l M pc ls st g σ τ Q) Q (fun M' as g σ τ Q' => x_snd l M' 0 (x_loc as M'.2.2.1) [] g σ τ Q')) : x_snd l M pc ls st g σ τ Q := by
  intro hok p e R s m args below meth c fc D kc A Z n0 ad0 hK hex hA hscr hret ad H locs arr hW hS hag hl
  have go : ∀ {pc' : Nat} {ls' st' : List Value} {g' : xG} {σ' : xS} {τ' : xL}, x_snd l M pc' ls' st' g' σ' τ' Q → ∀ (ad' : Nat → Nat) (H' : Heap) (locs' : List Loc) (arr' : Array Slot), x_W kc D A ad' g' σ' τ' H' → va_S A s.heap H' locs' → x_ag M n0 ad0 ad' g' → x_lr ad' ls' arr' M.2.2.1 → W p l e R s m args below meth c H' locs' g'.2.2.1 g'.2.2.2 Z (F0 m pc' arr' (st'.map (x_cv ad'))) := fun k ad' H' locs' arr' w1 w2 w3 w4 => k hok p e R s m args below meth c fc D kc A Z n0 ad0 hK hex hA hscr hret ad' H' locs' arr' w1 w2 w3 w4
  obtain ⟨hx, hb, hml, hown, hts, hini, hr1, hr2, hr3, hr4⟩ := id fc
  obtain ⟨rfl, rfl⟩ := x_ok1 (i := .imul) hi
  rcases st with _ | ⟨(x | _ | _ | _ | _ | _ | _), st⟩ <;> first | exact False.elim h | skip
  rcases st with _ | ⟨(y | _ | _ | _ | _ | _ | _), st⟩ <;> first | exact False.elim h | skip
  exact lv_imul hx hb hd (go h ad H locs arr hW hS hag hl)
set_option maxHeartbeats 1000000 in
theorem xs_iand (l : Launch) {M : xM} {pc len a b : Nat} {v : Value} {ls st : List Value} {g : xG} {σ : xS} {τ : xL} {Q : xQ} {raw : Instr} (hd : decode (x_by M.1) pc = .ok (raw, len)) (hi : x_oki (M.1, M.2.1, M.2.2.1, M.2.2.2.2.2.1) pc raw len .iand a b v = true)
    (h : x_stp M .iand (pc + len) a b v ls st g σ τ (fun pc ls st g σ τ => x_snd l M pc ls st g σ τ Q) Q (fun M' as g σ τ Q' => x_snd l M' 0 (x_loc as M'.2.2.1) [] g σ τ Q')) : x_snd l M pc ls st g σ τ Q := by
  intro hok p e R s m args below meth c fc D kc A Z n0 ad0 hK hex hA hscr hret ad H locs arr hW hS hag hl
  have go : ∀ {pc' : Nat} {ls' st' : List Value} {g' : xG} {σ' : xS} {τ' : xL}, x_snd l M pc' ls' st' g' σ' τ' Q → ∀ (ad' : Nat → Nat) (H' : Heap) (locs' : List Loc) (arr' : Array Slot), x_W kc D A ad' g' σ' τ' H' → va_S A s.heap H' locs' → x_ag M n0 ad0 ad' g' → x_lr ad' ls' arr' M.2.2.1 → W p l e R s m args below meth c H' locs' g'.2.2.1 g'.2.2.2 Z (F0 m pc' arr' (st'.map (x_cv ad'))) := fun k ad' H' locs' arr' w1 w2 w3 w4 => k hok p e R s m args below meth c fc D kc A Z n0 ad0 hK hex hA hscr hret ad' H' locs' arr' w1 w2 w3 w4
  obtain ⟨hx, hb, hml, hown, hts, hini, hr1, hr2, hr3, hr4⟩ := id fc
  obtain ⟨rfl, rfl⟩ := x_ok1 (i := .iand) hi
  rcases st with _ | ⟨(x | _ | _ | _ | _ | _ | _), st⟩ <;> first | exact False.elim h | skip
  rcases st with _ | ⟨(y | _ | _ | _ | _ | _ | _), st⟩ <;> first | exact False.elim h | skip
  exact lv_iand hx hb hd (go h ad H locs arr hW hS hag hl)
set_option maxHeartbeats 1000000 in
theorem xs_ior (l : Launch) {M : xM} {pc len a b : Nat} {v : Value} {ls st : List Value} {g : xG} {σ : xS} {τ : xL} {Q : xQ} {raw : Instr} (hd : decode (x_by M.1) pc = .ok (raw, len)) (hi : x_oki (M.1, M.2.1, M.2.2.1, M.2.2.2.2.2.1) pc raw len .ior a b v = true)
    (h : x_stp M .ior (pc + len) a b v ls st g σ τ (fun pc ls st g σ τ => x_snd l M pc ls st g σ τ Q) Q (fun M' as g σ τ Q' => x_snd l M' 0 (x_loc as M'.2.2.1) [] g σ τ Q')) : x_snd l M pc ls st g σ τ Q := by
  intro hok p e R s m args below meth c fc D kc A Z n0 ad0 hK hex hA hscr hret ad H locs arr hW hS hag hl
  have go : ∀ {pc' : Nat} {ls' st' : List Value} {g' : xG} {σ' : xS} {τ' : xL}, x_snd l M pc' ls' st' g' σ' τ' Q → ∀ (ad' : Nat → Nat) (H' : Heap) (locs' : List Loc) (arr' : Array Slot), x_W kc D A ad' g' σ' τ' H' → va_S A s.heap H' locs' → x_ag M n0 ad0 ad' g' → x_lr ad' ls' arr' M.2.2.1 → W p l e R s m args below meth c H' locs' g'.2.2.1 g'.2.2.2 Z (F0 m pc' arr' (st'.map (x_cv ad'))) := fun k ad' H' locs' arr' w1 w2 w3 w4 => k hok p e R s m args below meth c fc D kc A Z n0 ad0 hK hex hA hscr hret ad' H' locs' arr' w1 w2 w3 w4
  obtain ⟨hx, hb, hml, hown, hts, hini, hr1, hr2, hr3, hr4⟩ := id fc
  obtain ⟨rfl, rfl⟩ := x_ok1 (i := .ior) hi
  rcases st with _ | ⟨(x | _ | _ | _ | _ | _ | _), st⟩ <;> first | exact False.elim h | skip
  rcases st with _ | ⟨(y | _ | _ | _ | _ | _ | _), st⟩ <;> first | exact False.elim h | skip
  exact lv_ior hx hb hd (go h ad H locs arr hW hS hag hl)
set_option maxHeartbeats 1000000 in
theorem xs_ixor (l : Launch) {M : xM} {pc len a b : Nat} {v : Value} {ls st : List Value} {g : xG} {σ : xS} {τ : xL} {Q : xQ} {raw : Instr} (hd : decode (x_by M.1) pc = .ok (raw, len)) (hi : x_oki (M.1, M.2.1, M.2.2.1, M.2.2.2.2.2.1) pc raw len .ixor a b v = true)
    (h : x_stp M .ixor (pc + len) a b v ls st g σ τ (fun pc ls st g σ τ => x_snd l M pc ls st g σ τ Q) Q (fun M' as g σ τ Q' => x_snd l M' 0 (x_loc as M'.2.2.1) [] g σ τ Q')) : x_snd l M pc ls st g σ τ Q := by
  intro hok p e R s m args below meth c fc D kc A Z n0 ad0 hK hex hA hscr hret ad H locs arr hW hS hag hl
  have go : ∀ {pc' : Nat} {ls' st' : List Value} {g' : xG} {σ' : xS} {τ' : xL}, x_snd l M pc' ls' st' g' σ' τ' Q → ∀ (ad' : Nat → Nat) (H' : Heap) (locs' : List Loc) (arr' : Array Slot), x_W kc D A ad' g' σ' τ' H' → va_S A s.heap H' locs' → x_ag M n0 ad0 ad' g' → x_lr ad' ls' arr' M.2.2.1 → W p l e R s m args below meth c H' locs' g'.2.2.1 g'.2.2.2 Z (F0 m pc' arr' (st'.map (x_cv ad'))) := fun k ad' H' locs' arr' w1 w2 w3 w4 => k hok p e R s m args below meth c fc D kc A Z n0 ad0 hK hex hA hscr hret ad' H' locs' arr' w1 w2 w3 w4
  obtain ⟨hx, hb, hml, hown, hts, hini, hr1, hr2, hr3, hr4⟩ := id fc
  obtain ⟨rfl, rfl⟩ := x_ok1 (i := .ixor) hi
  rcases st with _ | ⟨(x | _ | _ | _ | _ | _ | _), st⟩ <;> first | exact False.elim h | skip
  rcases st with _ | ⟨(y | _ | _ | _ | _ | _ | _), st⟩ <;> first | exact False.elim h | skip
  exact lv_ixor hx hb hd (go h ad H locs arr hW hS hag hl)
set_option maxHeartbeats 1000000 in
theorem xs_ishl (l : Launch) {M : xM} {pc len a b : Nat} {v : Value} {ls st : List Value} {g : xG} {σ : xS} {τ : xL} {Q : xQ} {raw : Instr} (hd : decode (x_by M.1) pc = .ok (raw, len)) (hi : x_oki (M.1, M.2.1, M.2.2.1, M.2.2.2.2.2.1) pc raw len .ishl a b v = true)
    (h : x_stp M .ishl (pc + len) a b v ls st g σ τ (fun pc ls st g σ τ => x_snd l M pc ls st g σ τ Q) Q (fun M' as g σ τ Q' => x_snd l M' 0 (x_loc as M'.2.2.1) [] g σ τ Q')) : x_snd l M pc ls st g σ τ Q := by
  intro hok p e R s m args below meth c fc D kc A Z n0 ad0 hK hex hA hscr hret ad H locs arr hW hS hag hl
  have go : ∀ {pc' : Nat} {ls' st' : List Value} {g' : xG} {σ' : xS} {τ' : xL}, x_snd l M pc' ls' st' g' σ' τ' Q → ∀ (ad' : Nat → Nat) (H' : Heap) (locs' : List Loc) (arr' : Array Slot), x_W kc D A ad' g' σ' τ' H' → va_S A s.heap H' locs' → x_ag M n0 ad0 ad' g' → x_lr ad' ls' arr' M.2.2.1 → W p l e R s m args below meth c H' locs' g'.2.2.1 g'.2.2.2 Z (F0 m pc' arr' (st'.map (x_cv ad'))) := fun k ad' H' locs' arr' w1 w2 w3 w4 => k hok p e R s m args below meth c fc D kc A Z n0 ad0 hK hex hA hscr hret ad' H' locs' arr' w1 w2 w3 w4
  obtain ⟨hx, hb, hml, hown, hts, hini, hr1, hr2, hr3, hr4⟩ := id fc
  obtain ⟨rfl, rfl⟩ := x_ok1 (i := .ishl) hi
  rcases st with _ | ⟨(x | _ | _ | _ | _ | _ | _), st⟩ <;> first | exact False.elim h | skip
  rcases st with _ | ⟨(y | _ | _ | _ | _ | _ | _), st⟩ <;> first | exact False.elim h | skip
  exact lv_ishl hx hb hd (go h ad H locs arr hW hS hag hl)
set_option maxHeartbeats 1000000 in
theorem xs_ishr (l : Launch) {M : xM} {pc len a b : Nat} {v : Value} {ls st : List Value} {g : xG} {σ : xS} {τ : xL} {Q : xQ} {raw : Instr} (hd : decode (x_by M.1) pc = .ok (raw, len)) (hi : x_oki (M.1, M.2.1, M.2.2.1, M.2.2.2.2.2.1) pc raw len .ishr a b v = true)
    (h : x_stp M .ishr (pc + len) a b v ls st g σ τ (fun pc ls st g σ τ => x_snd l M pc ls st g σ τ Q) Q (fun M' as g σ τ Q' => x_snd l M' 0 (x_loc as M'.2.2.1) [] g σ τ Q')) : x_snd l M pc ls st g σ τ Q := by
  intro hok p e R s m args below meth c fc D kc A Z n0 ad0 hK hex hA hscr hret ad H locs arr hW hS hag hl
  have go : ∀ {pc' : Nat} {ls' st' : List Value} {g' : xG} {σ' : xS} {τ' : xL}, x_snd l M pc' ls' st' g' σ' τ' Q → ∀ (ad' : Nat → Nat) (H' : Heap) (locs' : List Loc) (arr' : Array Slot), x_W kc D A ad' g' σ' τ' H' → va_S A s.heap H' locs' → x_ag M n0 ad0 ad' g' → x_lr ad' ls' arr' M.2.2.1 → W p l e R s m args below meth c H' locs' g'.2.2.1 g'.2.2.2 Z (F0 m pc' arr' (st'.map (x_cv ad'))) := fun k ad' H' locs' arr' w1 w2 w3 w4 => k hok p e R s m args below meth c fc D kc A Z n0 ad0 hK hex hA hscr hret ad' H' locs' arr' w1 w2 w3 w4
  obtain ⟨hx, hb, hml, hown, hts, hini, hr1, hr2, hr3, hr4⟩ := id fc
  obtain ⟨rfl, rfl⟩ := x_ok1 (i := .ishr) hi
  rcases st with _ | ⟨(x | _ | _ | _ | _ | _ | _), st⟩ <;> first | exact False.elim h | skip
  rcases st with _ | ⟨(y | _ | _ | _ | _ | _ | _), st⟩ <;> first | exact False.elim h | skip
  exact lv_ishr hx hb hd (go h ad H locs arr hW hS hag hl)
set_option maxHeartbeats 1000000 in
theorem xs_iushr (l : Launch) {M : xM} {pc len a b : Nat} {v : Value} {ls st : List Value} {g : xG} {σ : xS} {τ : xL} {Q : xQ} {raw : Instr} (hd : decode (x_by M.1) pc = .ok (raw, len)) (hi : x_oki (M.1, M.2.1, M.2.2.1, M.2.2.2.2.2.1) pc raw len .iushr a b v = true)
    (h : x_stp M .iushr (pc + len) a b v ls st g σ τ (fun pc ls st g σ τ => x_snd l M pc ls st g σ τ Q) Q (fun M' as g σ τ Q' => x_snd l M' 0 (x_loc as M'.2.2.1) [] g σ τ Q')) : x_snd l M pc ls st g σ τ Q := by
  intro hok p e R s m args below meth c fc D kc A Z n0 ad0 hK hex hA hscr hret ad H locs arr hW hS hag hl
  have go : ∀ {pc' : Nat} {ls' st' : List Value} {g' : xG} {σ' : xS} {τ' : xL}, x_snd l M pc' ls' st' g' σ' τ' Q → ∀ (ad' : Nat → Nat) (H' : Heap) (locs' : List Loc) (arr' : Array Slot), x_W kc D A ad' g' σ' τ' H' → va_S A s.heap H' locs' → x_ag M n0 ad0 ad' g' → x_lr ad' ls' arr' M.2.2.1 → W p l e R s m args below meth c H' locs' g'.2.2.1 g'.2.2.2 Z (F0 m pc' arr' (st'.map (x_cv ad'))) := fun k ad' H' locs' arr' w1 w2 w3 w4 => k hok p e R s m args below meth c fc D kc A Z n0 ad0 hK hex hA hscr hret ad' H' locs' arr' w1 w2 w3 w4
  obtain ⟨hx, hb, hml, hown, hts, hini, hr1, hr2, hr3, hr4⟩ := id fc
  obtain ⟨rfl, rfl⟩ := x_ok1 (i := .iushr) hi
  rcases st with _ | ⟨(x | _ | _ | _ | _ | _ | _), st⟩ <;> first | exact False.elim h | skip
  rcases st with _ | ⟨(y | _ | _ | _ | _ | _ | _), st⟩ <;> first | exact False.elim h | skip
  exact lv_iushr hx hb hd rfl (go h ad H locs arr hW hS hag hl)
set_option maxHeartbeats 1000000 in
theorem xs_ineg (l : Launch) {M : xM} {pc len a b : Nat} {v : Value} {ls st : List Value} {g : xG} {σ : xS} {τ : xL} {Q : xQ} {raw : Instr} (hd : decode (x_by M.1) pc = .ok (raw, len)) (hi : x_oki (M.1, M.2.1, M.2.2.1, M.2.2.2.2.2.1) pc raw len .ineg a b v = true)
    (h : x_stp M .ineg (pc + len) a b v ls st g σ τ (fun pc ls st g σ τ => x_snd l M pc ls st g σ τ Q) Q (fun M' as g σ τ Q' => x_snd l M' 0 (x_loc as M'.2.2.1) [] g σ τ Q')) : x_snd l M pc ls st g σ τ Q := by
  intro hok p e R s m args below meth c fc D kc A Z n0 ad0 hK hex hA hscr hret ad H locs arr hW hS hag hl
  have go : ∀ {pc' : Nat} {ls' st' : List Value} {g' : xG} {σ' : xS} {τ' : xL}, x_snd l M pc' ls' st' g' σ' τ' Q → ∀ (ad' : Nat → Nat) (H' : Heap) (locs' : List Loc) (arr' : Array Slot), x_W kc D A ad' g' σ' τ' H' → va_S A s.heap H' locs' → x_ag M n0 ad0 ad' g' → x_lr ad' ls' arr' M.2.2.1 → W p l e R s m args below meth c H' locs' g'.2.2.1 g'.2.2.2 Z (F0 m pc' arr' (st'.map (x_cv ad'))) := fun k ad' H' locs' arr' w1 w2 w3 w4 => k hok p e R s m args below meth c fc D kc A Z n0 ad0 hK hex hA hscr hret ad' H' locs' arr' w1 w2 w3 w4
  obtain ⟨hx, hb, hml, hown, hts, hini, hr1, hr2, hr3, hr4⟩ := id fc
  obtain ⟨rfl, rfl⟩ := x_ok1 (i := .ineg) hi
  rcases st with _ | ⟨(x | _ | _ | _ | _ | _ | _), st⟩ <;> first | exact False.elim h | skip
  exact lv_ineg hx hb hd (go h ad H locs arr hW hS hag hl)
set_option maxHeartbeats 1000000 in
theorem xs_i2l (l : Launch) {M : xM} {pc len a b : Nat} {v : Value} {ls st : List Value} {g : xG} {σ : xS} {τ : xL} {Q : xQ} {raw : Instr} (hd : decode (x_by M.1) pc = .ok (raw, len)) (hi : x_oki (M.1, M.2.1, M.2.2.1, M.2.2.2.2.2.1) pc raw len .i2l a b v = true)
    (h : x_stp M .i2l (pc + len) a b v ls st g σ τ (fun pc ls st g σ τ => x_snd l M pc ls st g σ τ Q) Q (fun M' as g σ τ Q' => x_snd l M' 0 (x_loc as M'.2.2.1) [] g σ τ Q')) : x_snd l M pc ls st g σ τ Q := by
  intro hok p e R s m args below meth c fc D kc A Z n0 ad0 hK hex hA hscr hret ad H locs arr hW hS hag hl
  have go : ∀ {pc' : Nat} {ls' st' : List Value} {g' : xG} {σ' : xS} {τ' : xL}, x_snd l M pc' ls' st' g' σ' τ' Q → ∀ (ad' : Nat → Nat) (H' : Heap) (locs' : List Loc) (arr' : Array Slot), x_W kc D A ad' g' σ' τ' H' → va_S A s.heap H' locs' → x_ag M n0 ad0 ad' g' → x_lr ad' ls' arr' M.2.2.1 → W p l e R s m args below meth c H' locs' g'.2.2.1 g'.2.2.2 Z (F0 m pc' arr' (st'.map (x_cv ad'))) := fun k ad' H' locs' arr' w1 w2 w3 w4 => k hok p e R s m args below meth c fc D kc A Z n0 ad0 hK hex hA hscr hret ad' H' locs' arr' w1 w2 w3 w4
  obtain ⟨hx, hb, hml, hown, hts, hini, hr1, hr2, hr3, hr4⟩ := id fc
  obtain ⟨rfl, rfl⟩ := x_ok1 (i := .i2l) hi
  rcases st with _ | ⟨(x | _ | _ | _ | _ | _ | _), st⟩ <;> first | exact False.elim h | skip
  exact lv_i2l hx hb hd rfl (go h ad H locs arr hW hS hag hl)
set_option maxHeartbeats 1000000 in
theorem xs_i2b (l : Launch) {M : xM} {pc len a b : Nat} {v : Value} {ls st : List Value} {g : xG} {σ : xS} {τ : xL} {Q : xQ} {raw : Instr} (hd : decode (x_by M.1) pc = .ok (raw, len)) (hi : x_oki (M.1, M.2.1, M.2.2.1, M.2.2.2.2.2.1) pc raw len .i2b a b v = true)
    (h : x_stp M .i2b (pc + len) a b v ls st g σ τ (fun pc ls st g σ τ => x_snd l M pc ls st g σ τ Q) Q (fun M' as g σ τ Q' => x_snd l M' 0 (x_loc as M'.2.2.1) [] g σ τ Q')) : x_snd l M pc ls st g σ τ Q := by
  intro hok p e R s m args below meth c fc D kc A Z n0 ad0 hK hex hA hscr hret ad H locs arr hW hS hag hl
  have go : ∀ {pc' : Nat} {ls' st' : List Value} {g' : xG} {σ' : xS} {τ' : xL}, x_snd l M pc' ls' st' g' σ' τ' Q → ∀ (ad' : Nat → Nat) (H' : Heap) (locs' : List Loc) (arr' : Array Slot), x_W kc D A ad' g' σ' τ' H' → va_S A s.heap H' locs' → x_ag M n0 ad0 ad' g' → x_lr ad' ls' arr' M.2.2.1 → W p l e R s m args below meth c H' locs' g'.2.2.1 g'.2.2.2 Z (F0 m pc' arr' (st'.map (x_cv ad'))) := fun k ad' H' locs' arr' w1 w2 w3 w4 => k hok p e R s m args below meth c fc D kc A Z n0 ad0 hK hex hA hscr hret ad' H' locs' arr' w1 w2 w3 w4
  obtain ⟨hx, hb, hml, hown, hts, hini, hr1, hr2, hr3, hr4⟩ := id fc
  obtain ⟨rfl, rfl⟩ := x_ok1 (i := .i2b) hi
  rcases st with _ | ⟨(x | _ | _ | _ | _ | _ | _), st⟩ <;> first | exact False.elim h | skip
  exact lv_i2b hx hb hd rfl (go h ad H locs arr hW hS hag hl)
set_option maxHeartbeats 1000000 in
theorem xs_l2i (l : Launch) {M : xM} {pc len a b : Nat} {v : Value} {ls st : List Value} {g : xG} {σ : xS} {τ : xL} {Q : xQ} {raw : Instr} (hd : decode (x_by M.1) pc = .ok (raw, len)) (hi : x_oki (M.1, M.2.1, M.2.2.1, M.2.2.2.2.2.1) pc raw len .l2i a b v = true)
    (h : x_stp M .l2i (pc + len) a b v ls st g σ τ (fun pc ls st g σ τ => x_snd l M pc ls st g σ τ Q) Q (fun M' as g σ τ Q' => x_snd l M' 0 (x_loc as M'.2.2.1) [] g σ τ Q')) : x_snd l M pc ls st g σ τ Q := by
  intro hok p e R s m args below meth c fc D kc A Z n0 ad0 hK hex hA hscr hret ad H locs arr hW hS hag hl
  have go : ∀ {pc' : Nat} {ls' st' : List Value} {g' : xG} {σ' : xS} {τ' : xL}, x_snd l M pc' ls' st' g' σ' τ' Q → ∀ (ad' : Nat → Nat) (H' : Heap) (locs' : List Loc) (arr' : Array Slot), x_W kc D A ad' g' σ' τ' H' → va_S A s.heap H' locs' → x_ag M n0 ad0 ad' g' → x_lr ad' ls' arr' M.2.2.1 → W p l e R s m args below meth c H' locs' g'.2.2.1 g'.2.2.2 Z (F0 m pc' arr' (st'.map (x_cv ad'))) := fun k ad' H' locs' arr' w1 w2 w3 w4 => k hok p e R s m args below meth c fc D kc A Z n0 ad0 hK hex hA hscr hret ad' H' locs' arr' w1 w2 w3 w4
  obtain ⟨hx, hb, hml, hown, hts, hini, hr1, hr2, hr3, hr4⟩ := id fc
  obtain ⟨rfl, rfl⟩ := x_ok1 (i := .l2i) hi
  rcases st with _ | ⟨(_ | x | _ | _ | _ | _ | _), st⟩ <;> first | exact False.elim h | skip
  exact lv_l2i hx hb hd rfl (go h ad H locs arr hW hS hag hl)
set_option maxHeartbeats 1000000 in
theorem xs_ladd (l : Launch) {M : xM} {pc len a b : Nat} {v : Value} {ls st : List Value} {g : xG} {σ : xS} {τ : xL} {Q : xQ} {raw : Instr} (hd : decode (x_by M.1) pc = .ok (raw, len)) (hi : x_oki (M.1, M.2.1, M.2.2.1, M.2.2.2.2.2.1) pc raw len .ladd a b v = true)
    (h : x_stp M .ladd (pc + len) a b v ls st g σ τ (fun pc ls st g σ τ => x_snd l M pc ls st g σ τ Q) Q (fun M' as g σ τ Q' => x_snd l M' 0 (x_loc as M'.2.2.1) [] g σ τ Q')) : x_snd l M pc ls st g σ τ Q := by
  intro hok p e R s m args below meth c fc D kc A Z n0 ad0 hK hex hA hscr hret ad H locs arr hW hS hag hl
  have go : ∀ {pc' : Nat} {ls' st' : List Value} {g' : xG} {σ' : xS} {τ' : xL}, x_snd l M pc' ls' st' g' σ' τ' Q → ∀ (ad' : Nat → Nat) (H' : Heap) (locs' : List Loc) (arr' : Array Slot), x_W kc D A ad' g' σ' τ' H' → va_S A s.heap H' locs' → x_ag M n0 ad0 ad' g' → x_lr ad' ls' arr' M.2.2.1 → W p l e R s m args below meth c H' locs' g'.2.2.1 g'.2.2.2 Z (F0 m pc' arr' (st'.map (x_cv ad'))) := fun k ad' H' locs' arr' w1 w2 w3 w4 => k hok p e R s m args below meth c fc D kc A Z n0 ad0 hK hex hA hscr hret ad' H' locs' arr' w1 w2 w3 w4
  obtain ⟨hx, hb, hml, hown, hts, hini, hr1, hr2, hr3, hr4⟩ := id fc
  obtain ⟨rfl, rfl⟩ := x_ok1 (i := .ladd) hi
  rcases st with _ | ⟨(_ | x | _ | _ | _ | _ | _), st⟩ <;> first | exact False.elim h | skip
  rcases st with _ | ⟨(_ | y | _ | _ | _ | _ | _), st⟩ <;> first | exact False.elim h | skip
  exact lv_ladd hx hb hd (go h ad H locs arr hW hS hag hl)
set_option maxHeartbeats 1000000 in
theorem xs_lmul (l : Launch) {M : xM} {pc len a b : Nat} {v : Value} {ls st : List Value} {g : xG} {σ : xS} {τ : xL} {Q : xQ} {raw : Instr} (hd : decode (x_by M.1) pc = .ok (raw, len)) (hi : x_oki (M.1, M.2.1, M.2.2.1, M.2.2.2.2.2.1) pc raw len .lmul a b v = true)
    (h : x_stp M .lmul (pc + len) a b v ls st g σ τ (fun pc ls st g σ τ => x_snd l M pc ls st g σ τ Q) Q (fun M' as g σ τ Q' => x_snd l M' 0 (x_loc as M'.2.2.1) [] g σ τ Q')) : x_snd l M pc ls st g σ τ Q := by
  intro hok p e R s m args below meth c fc D kc A Z n0 ad0 hK hex hA hscr hret ad H locs arr hW hS hag hl
  have go : ∀ {pc' : Nat} {ls' st' : List Value} {g' : xG} {σ' : xS} {τ' : xL}, x_snd l M pc' ls' st' g' σ' τ' Q → ∀ (ad' : Nat → Nat) (H' : Heap) (locs' : List Loc) (arr' : Array Slot), x_W kc D A ad' g' σ' τ' H' → va_S A s.heap H' locs' → x_ag M n0 ad0 ad' g' → x_lr ad' ls' arr' M.2.2.1 → W p l e R s m args below meth c H' locs' g'.2.2.1 g'.2.2.2 Z (F0 m pc' arr' (st'.map (x_cv ad'))) := fun k ad' H' locs' arr' w1 w2 w3 w4 => k hok p e R s m args below meth c fc D kc A Z n0 ad0 hK hex hA hscr hret ad' H' locs' arr' w1 w2 w3 w4
  obtain ⟨hx, hb, hml, hown, hts, hini, hr1, hr2, hr3, hr4⟩ := id fc
  obtain ⟨rfl, rfl⟩ := x_ok1 (i := .lmul) hi
  rcases st with _ | ⟨(_ | x | _ | _ | _ | _ | _), st⟩ <;> first | exact False.elim h | skip
  rcases st with _ | ⟨(_ | y | _ | _ | _ | _ | _), st⟩ <;> first | exact False.elim h | skip
  exact lv_lmul hx hb hd (go h ad H locs arr hW hS hag hl)
set_option maxHeartbeats 1000000 in
theorem xs_lcmp (l : Launch) {M : xM} {pc len a b : Nat} {v : Value} {ls st : List Value} {g : xG} {σ : xS} {τ : xL} {Q : xQ} {raw : Instr} (hd : decode (x_by M.1) pc = .ok (raw, len)) (hi : x_oki (M.1, M.2.1, M.2.2.1, M.2.2.2.2.2.1) pc raw len .lcmp a b v = true)
    (h : x_stp M .lcmp (pc + len) a b v ls st g σ τ (fun pc ls st g σ τ => x_snd l M pc ls st g σ τ Q) Q (fun M' as g σ τ Q' => x_snd l M' 0 (x_loc as M'.2.2.1) [] g σ τ Q')) : x_snd l M pc ls st g σ τ Q := by
  intro hok p e R s m args below meth c fc D kc A Z n0 ad0 hK hex hA hscr hret ad H locs arr hW hS hag hl
  have go : ∀ {pc' : Nat} {ls' st' : List Value} {g' : xG} {σ' : xS} {τ' : xL}, x_snd l M pc' ls' st' g' σ' τ' Q → ∀ (ad' : Nat → Nat) (H' : Heap) (locs' : List Loc) (arr' : Array Slot), x_W kc D A ad' g' σ' τ' H' → va_S A s.heap H' locs' → x_ag M n0 ad0 ad' g' → x_lr ad' ls' arr' M.2.2.1 → W p l e R s m args below meth c H' locs' g'.2.2.1 g'.2.2.2 Z (F0 m pc' arr' (st'.map (x_cv ad'))) := fun k ad' H' locs' arr' w1 w2 w3 w4 => k hok p e R s m args below meth c fc D kc A Z n0 ad0 hK hex hA hscr hret ad' H' locs' arr' w1 w2 w3 w4
  obtain ⟨hx, hb, hml, hown, hts, hini, hr1, hr2, hr3, hr4⟩ := id fc
  obtain ⟨rfl, rfl⟩ := x_ok1 (i := .lcmp) hi
  rcases st with _ | ⟨(_ | x | _ | _ | _ | _ | _), st⟩ <;> first | exact False.elim h | skip
  rcases st with _ | ⟨(_ | y | _ | _ | _ | _ | _), st⟩ <;> first | exact False.elim h | skip
  exact W.lcmp hx hb hd (go h ad H locs arr hW hS hag hl)
set_option maxHeartbeats 1000000 in
theorem xs_pop (l : Launch) {M : xM} {pc len a b : Nat} {v : Value} {ls st : List Value} {g : xG} {σ : xS} {τ : xL} {Q : xQ} {raw : Instr} (hd : decode (x_by M.1) pc = .ok (raw, len)) (hi : x_oki (M.1, M.2.1, M.2.2.1, M.2.2.2.2.2.1) pc raw len .pop a b v = true)
    (h : x_stp M .pop (pc + len) a b v ls st g σ τ (fun pc ls st g σ τ => x_snd l M pc ls st g σ τ Q) Q (fun M' as g σ τ Q' => x_snd l M' 0 (x_loc as M'.2.2.1) [] g σ τ Q')) : x_snd l M pc ls st g σ τ Q := by
  intro hok p e R s m args below meth c fc D kc A Z n0 ad0 hK hex hA hscr hret ad H locs arr hW hS hag hl
  have go : ∀ {pc' : Nat} {ls' st' : List Value} {g' : xG} {σ' : xS} {τ' : xL}, x_snd l M pc' ls' st' g' σ' τ' Q → ∀ (ad' : Nat → Nat) (H' : Heap) (locs' : List Loc) (arr' : Array Slot), x_W kc D A ad' g' σ' τ' H' → va_S A s.heap H' locs' → x_ag M n0 ad0 ad' g' → x_lr ad' ls' arr' M.2.2.1 → W p l e R s m args below meth c H' locs' g'.2.2.1 g'.2.2.2 Z (F0 m pc' arr' (st'.map (x_cv ad'))) := fun k ad' H' locs' arr' w1 w2 w3 w4 => k hok p e R s m args below meth c fc D kc A Z n0 ad0 hK hex hA hscr hret ad' H' locs' arr' w1 w2 w3 w4
  obtain ⟨hx, hb, hml, hown, hts, hini, hr1, hr2, hr3, hr4⟩ := id fc
  obtain ⟨rfl, rfl⟩ := x_ok1 (i := .pop) hi
  rcases st with _ | ⟨(x | _ | _ | _ | _ | _ | _), st⟩ <;> first | exact False.elim h | skip
  exact lv_pop hx hb hd rfl (go h ad H locs arr hW hS hag hl)
set_option maxHeartbeats 1000000 in
theorem xs_dup2 (l : Launch) {M : xM} {pc len a b : Nat} {v : Value} {ls st : List Value} {g : xG} {σ : xS} {τ : xL} {Q : xQ} {raw : Instr} (hd : decode (x_by M.1) pc = .ok (raw, len)) (hi : x_oki (M.1, M.2.1, M.2.2.1, M.2.2.2.2.2.1) pc raw len .dup2 a b v = true)
    (h : x_stp M .dup2 (pc + len) a b v ls st g σ τ (fun pc ls st g σ τ => x_snd l M pc ls st g σ τ Q) Q (fun M' as g σ τ Q' => x_snd l M' 0 (x_loc as M'.2.2.1) [] g σ τ Q')) : x_snd l M pc ls st g σ τ Q := by
  intro hok p e R s m args below meth c fc D kc A Z n0 ad0 hK hex hA hscr hret ad H locs arr hW hS hag hl
  have go : ∀ {pc' : Nat} {ls' st' : List Value} {g' : xG} {σ' : xS} {τ' : xL}, x_snd l M pc' ls' st' g' σ' τ' Q → ∀ (ad' : Nat → Nat) (H' : Heap) (locs' : List Loc) (arr' : Array Slot), x_W kc D A ad' g' σ' τ' H' → va_S A s.heap H' locs' → x_ag M n0 ad0 ad' g' → x_lr ad' ls' arr' M.2.2.1 → W p l e R s m args below meth c H' locs' g'.2.2.1 g'.2.2.2 Z (F0 m pc' arr' (st'.map (x_cv ad'))) := fun k ad' H' locs' arr' w1 w2 w3 w4 => k hok p e R s m args below meth c fc D kc A Z n0 ad0 hK hex hA hscr hret ad' H' locs' arr' w1 w2 w3 w4
  obtain ⟨hx, hb, hml, hown, hts, hini, hr1, hr2, hr3, hr4⟩ := id fc
  obtain ⟨rfl, rfl⟩ := x_ok1 (i := .dup2) hi
  rcases st with _ | ⟨(x | _ | _ | _ | _ | _ | _), st⟩ <;> first | exact False.elim h | skip
  rcases st with _ | ⟨(_ | _ | _ | _ | _ | y | _), st⟩ <;> first | exact False.elim h | skip
  exact lv_dup2_11 hx hb hd rfl rfl (go h ad H locs arr hW hS hag hl)
set_option maxHeartbeats 1000000 in
theorem xs_dup (l : Launch) {M : xM} {pc len a b : Nat} {v : Value} {ls st : List Value} {g : xG} {σ : xS} {τ : xL} {Q : xQ} {raw : Instr} (hd : decode (x_by M.1) pc = .ok (raw, len)) (hi : x_oki (M.1, M.2.1, M.2.2.1, M.2.2.2.2.2.1) pc raw len .dup a b v = true)
    (h : x_stp M .dup (pc + len) a b v ls st g σ τ (fun pc ls st g σ τ => x_snd l M pc ls st g σ τ Q) Q (fun M' as g σ τ Q' => x_snd l M' 0 (x_loc as M'.2.2.1) [] g σ τ Q')) : x_snd l M pc ls st g σ τ Q := by
  intro hok p e R s m args below meth c fc D kc A Z n0 ad0 hK hex hA hscr hret ad H locs arr hW hS hag hl
  have go : ∀ {pc' : Nat} {ls' st' : List Value} {g' : xG} {σ' : xS} {τ' : xL}, x_snd l M pc' ls' st' g' σ' τ' Q → ∀ (ad' : Nat → Nat) (H' : Heap) (locs' : List Loc) (arr' : Array Slot), x_W kc D A ad' g' σ' τ' H' → va_S A s.heap H' locs' → x_ag M n0 ad0 ad' g' → x_lr ad' ls' arr' M.2.2.1 → W p l e R s m args below meth c H' locs' g'.2.2.1 g'.2.2.2 Z (F0 m pc' arr' (st'.map (x_cv ad'))) := fun k ad' H' locs' arr' w1 w2 w3 w4 => k hok p e R s m args below meth c fc D kc A Z n0 ad0 hK hex hA hscr hret ad' H' locs' arr' w1 w2 w3 w4
  obtain ⟨hx, hb, hml, hown, hts, hini, hr1, hr2, hr3, hr4⟩ := id fc
  obtain ⟨rfl, rfl⟩ := x_ok1 (i := .dup) hi
  rcases st with _ | ⟨(x | _ | _ | _ | _ | x | _), st⟩ <;> first | exact False.elim h | exact lv_dup hx hb hd rfl (go h ad H locs arr hW hS hag hl)
set_option maxHeartbeats 1000000 in
theorem xs_idiv (l : Launch) {M : xM} {pc len a b : Nat} {v : Value} {ls st : List Value} {g : xG} {σ : xS} {τ : xL} {Q : xQ} {raw : Instr} (hd : decode (x_by M.1) pc = .ok (raw, len)) (hi : x_oki (M.1, M.2.1, M.2.2.1, M.2.2.2.2.2.1) pc raw len .idiv a b v = true)
    (h : x_stp M .idiv (pc + len) a b v ls st g σ τ (fun pc ls st g σ τ => x_snd l M pc ls st g σ τ Q) Q (fun M' as g σ τ Q' => x_snd l M' 0 (x_loc as M'.2.2.1) [] g σ τ Q')) : x_snd l M pc ls st g σ τ Q := by
  intro hok p e R s m args below meth c fc D kc A Z n0 ad0 hK hex hA hscr hret ad H locs arr hW hS hag hl
  have go : ∀ {pc' : Nat} {ls' st' : List Value} {g' : xG} {σ' : xS} {τ' : xL}, x_snd l M pc' ls' st' g' σ' τ' Q → ∀ (ad' : Nat → Nat) (H' : Heap) (locs' : List Loc) (arr' : Array Slot), x_W kc D A ad' g' σ' τ' H' → va_S A s.heap H' locs' → x_ag M n0 ad0 ad' g' → x_lr ad' ls' arr' M.2.2.1 → W p l e R s m args below meth c H' locs' g'.2.2.1 g'.2.2.2 Z (F0 m pc' arr' (st'.map (x_cv ad'))) := fun k ad' H' locs' arr' w1 w2 w3 w4 => k hok p e R s m args below meth c fc D kc A Z n0 ad0 hK hex hA hscr hret ad' H' locs' arr' w1 w2 w3 w4
  obtain ⟨hx, hb, hml, hown, hts, hini, hr1, hr2, hr3, hr4⟩ := id fc
  obtain ⟨rfl, rfl⟩ := x_ok1 (i := .idiv) hi
  rcases st with _ | ⟨(x | _ | _ | _ | _ | _ | _), st⟩ <;> first | exact False.elim h | skip
  rcases st with _ | ⟨(y | _ | _ | _ | _ | _ | _), st⟩ <;> first | exact False.elim h | skip
  exact lv_idiv hx hb hd h.1 (go h.2 ad H locs arr hW hS hag hl)
set_option maxHeartbeats 1000000 in
theorem xs_irem (l : Launch) {M : xM} {pc len a b : Nat} {v : Value} {ls st : List Value} {g : xG} {σ : xS} {τ : xL} {Q : xQ} {raw : Instr} (hd : decode (x_by M.1) pc = .ok (raw, len)) (hi : x_oki (M.1, M.2.1, M.2.2.1, M.2.2.2.2.2.1) pc raw len .irem a b v = true)
    (h : x_stp M .irem (pc + len) a b v ls st g σ τ (fun pc ls st g σ τ => x_snd l M pc ls st g σ τ Q) Q (fun M' as g σ τ Q' => x_snd l M' 0 (x_loc as M'.2.2.1) [] g σ τ Q')) : x_snd l M pc ls st g σ τ Q := by
  intro hok p e R s m args below meth c fc D kc A Z n0 ad0 hK hex hA hscr hret ad H locs arr hW hS hag hl
  have go : ∀ {pc' : Nat} {ls' st' : List Value} {g' : xG} {σ' : xS} {τ' : xL}, x_snd l M pc' ls' st' g' σ' τ' Q → ∀ (ad' : Nat → Nat) (H' : Heap) (locs' : List Loc) (arr' : Array Slot), x_W kc D A ad' g' σ' τ' H' → va_S A s.heap H' locs' → x_ag M n0 ad0 ad' g' → x_lr ad' ls' arr' M.2.2.1 → W p l e R s m args below meth c H' locs' g'.2.2.1 g'.2.2.2 Z (F0 m pc' arr' (st'.map (x_cv ad'))) := fun k ad' H' locs' arr' w1 w2 w3 w4 => k hok p e R s m args below meth c fc D kc A Z n0 ad0 hK hex hA hscr hret ad' H' locs' arr' w1 w2 w3 w4
  obtain ⟨hx, hb, hml, hown, hts, hini, hr1, hr2, hr3, hr4⟩ := id fc
  obtain ⟨rfl, rfl⟩ := x_ok1 (i := .irem) hi
  rcases st with _ | ⟨(x | _ | _ | _ | _ | _ | _), st⟩ <;> first | exact False.elim h | skip
  rcases st with _ | ⟨(y | _ | _ | _ | _ | _ | _), st⟩ <;> first | exact False.elim h | skip
  exact lv_irem hx hb hd h.1 (go h.2 ad H locs arr hW hS hag hl)
set_option maxHeartbeats 1000000 in
theorem xs_ldiv (l : Launch) {M : xM} {pc len a b : Nat} {v : Value} {ls st : List Value} {g : xG} {σ : xS} {τ : xL} {Q : xQ} {raw : Instr} (hd : decode (x_by M.1) pc = .ok (raw, len)) (hi : x_oki (M.1, M.2.1, M.2.2.1, M.2.2.2.2.2.1) pc raw len .ldiv a b v = true)
    (h : x_stp M .ldiv (pc + len) a b v ls st g σ τ (fun pc ls st g σ τ => x_snd l M pc ls st g σ τ Q) Q (fun M' as g σ τ Q' => x_snd l M' 0 (x_loc as M'.2.2.1) [] g σ τ Q')) : x_snd l M pc ls st g σ τ Q := by
  intro hok p e R s m args below meth c fc D kc A Z n0 ad0 hK hex hA hscr hret ad H locs arr hW hS hag hl
  have go : ∀ {pc' : Nat} {ls' st' : List Value} {g' : xG} {σ' : xS} {τ' : xL}, x_snd l M pc' ls' st' g' σ' τ' Q → ∀ (ad' : Nat → Nat) (H' : Heap) (locs' : List Loc) (arr' : Array Slot), x_W kc D A ad' g' σ' τ' H' → va_S A s.heap H' locs' → x_ag M n0 ad0 ad' g' → x_lr ad' ls' arr' M.2.2.1 → W p l e R s m args below meth c H' locs' g'.2.2.1 g'.2.2.2 Z (F0 m pc' arr' (st'.map (x_cv ad'))) := fun k ad' H' locs' arr' w1 w2 w3 w4 => k hok p e R s m args below meth c fc D kc A Z n0 ad0 hK hex hA hscr hret ad' H' locs' arr' w1 w2 w3 w4
  obtain ⟨hx, hb, hml, hown, hts, hini, hr1, hr2, hr3, hr4⟩ := id fc
  obtain ⟨rfl, rfl⟩ := x_ok1 (i := .ldiv) hi
  rcases st with _ | ⟨(_ | x | _ | _ | _ | _ | _), st⟩ <;> first | exact False.elim h | skip
  rcases st with _ | ⟨(_ | y | _ | _ | _ | _ | _), st⟩ <;> first | exact False.elim h | skip
  exact lv_ldiv hx hb hd h.1 (go h.2 ad H locs arr hW hS hag hl)
set_option maxHeartbeats 1000000 in
theorem xs_lrem (l : Launch) {M : xM} {pc len a b : Nat} {v : Value} {ls st : List Value} {g : xG} {σ : xS} {τ : xL} {Q : xQ} {raw : Instr} (hd : decode (x_by M.1) pc = .ok (raw, len)) (hi : x_oki (M.1, M.2.1, M.2.2.1, M.2.2.2.2.2.1) pc raw len .lrem a b v = true)
    (h : x_stp M .lrem (pc + len) a b v ls st g σ τ (fun pc ls st g σ τ => x_snd l M pc ls st g σ τ Q) Q (fun M' as g σ τ Q' => x_snd l M' 0 (x_loc as M'.2.2.1) [] g σ τ Q')) : x_snd l M pc ls st g σ τ Q := by
  intro hok p e R s m args below meth c fc D kc A Z n0 ad0 hK hex hA hscr hret ad H locs arr hW hS hag hl
  have go : ∀ {pc' : Nat} {ls' st' : List Value} {g' : xG} {σ' : xS} {τ' : xL}, x_snd l M pc' ls' st' g' σ' τ' Q → ∀ (ad' : Nat → Nat) (H' : Heap) (locs' : List Loc) (arr' : Array Slot), x_W kc D A ad' g' σ' τ' H' → va_S A s.heap H' locs' → x_ag M n0 ad0 ad' g' → x_lr ad' ls' arr' M.2.2.1 → W p l e R s m args below meth c H' locs' g'.2.2.1 g'.2.2.2 Z (F0 m pc' arr' (st'.map (x_cv ad'))) := fun k ad' H' locs' arr' w1 w2 w3 w4 => k hok p e R s m args below meth c fc D kc A Z n0 ad0 hK hex hA hscr hret ad' H' locs' arr' w1 w2 w3 w4
  obtain ⟨hx, hb, hml, hown, hts, hini, hr1, hr2, hr3, hr4⟩ := id fc
  obtain ⟨rfl, rfl⟩ := x_ok1 (i := .lrem) hi
  rcases st with _ | ⟨(_ | x | _ | _ | _ | _ | _), st⟩ <;> first | exact False.elim h | skip
  rcases st with _ | ⟨(_ | y | _ | _ | _ | _ | _), st⟩ <;> first | exact False.elim h | skip
  exact lv_lrem hx hb hd h.1 (go h.2 ad H locs arr hW hS hag hl)
set_option maxHeartbeats 1000000 in
theorem xs_iconst (l : Launch) {M : xM} {pc len a b : Nat} {v : Value} {ls st : List Value} {g : xG} {σ : xS} {τ : xL} {Q : xQ} {k : Int} {raw : Instr} (hd : decode (x_by M.1) pc = .ok (raw, len)) (hi : x_oki (M.1, M.2.1, M.2.2.1, M.2.2.2.2.2.1) pc raw len (.iconst k) a b v = true)
    (h : x_stp M (.iconst k) (pc + len) a b v ls st g σ τ (fun pc ls st g σ τ => x_snd l M pc ls st g σ τ Q) Q (fun M' as g σ τ Q' => x_snd l M' 0 (x_loc as M'.2.2.1) [] g σ τ Q')) : x_snd l M pc ls st g σ τ Q := by
  intro hok p e R s m args below meth c fc D kc A Z n0 ad0 hK hex hA hscr hret ad H locs arr hW hS hag hl
  have go : ∀ {pc' : Nat} {ls' st' : List Value} {g' : xG} {σ' : xS} {τ' : xL}, x_snd l M pc' ls' st' g' σ' τ' Q → ∀ (ad' : Nat → Nat) (H' : Heap) (locs' : List Loc) (arr' : Array Slot), x_W kc D A ad' g' σ' τ' H' → va_S A s.heap H' locs' → x_ag M n0 ad0 ad' g' → x_lr ad' ls' arr' M.2.2.1 → W p l e R s m args below meth c H' locs' g'.2.2.1 g'.2.2.2 Z (F0 m pc' arr' (st'.map (x_cv ad'))) := fun k ad' H' locs' arr' w1 w2 w3 w4 => k hok p e R s m args below meth c fc D kc A Z n0 ad0 hK hex hA hscr hret ad' H' locs' arr' w1 w2 w3 w4
  obtain ⟨hx, hb, hml, hown, hts, hini, hr1, hr2, hr3, hr4⟩ := id fc
  have hg := go h ad H locs arr hW hS hag hl
  simp only [x_oki] at hi
  split at hi
  · obtain ⟨rfl, rfl⟩ := x_ok2 hi
    exact lv_iconst hx hb hd rfl hg
  · obtain ⟨rfl, rfl⟩ := x_ok2 hi
    exact lv_bipush hx hb hd rfl hg
  · obtain ⟨rfl, rfl⟩ := x_ok2 hi
    exact lv_sipush hx hb hd rfl hg
  · obtain ⟨rfl, rfl⟩ := x_ok2 hi
    exact lv_lconst hx hb hd rfl hg
  · split at hi
    · obtain ⟨h1, h2⟩ := x_ok3 hi
      have := Nat.eq_of_beq_eq_true h1
      subst this
      exact lv_ldc hx hb hown (hts _ (x_has_in h2 rfl)) hd hg
    · cases hi
  · split at hi
    · obtain ⟨h1, h2⟩ := x_ok3 hi
      have := Nat.eq_of_beq_eq_true h1
      subst this
      exact lv_ldcw hx hb hown (hts _ (x_has_in h2 rfl)) hd hg
    · cases hi
  · split at hi
    · obtain ⟨h1, h2⟩ := x_ok3 hi
      have := Nat.eq_of_beq_eq_true h1
      subst this
      exact lv_ldc2 hx hb hown (hts _ (x_has_in h2 rfl)) hd hg
    · cases hi
  · cases hi
set_option maxHeartbeats 1000000 in
theorem xs_iload (l : Launch) {M : xM} {pc len a b : Nat} {v : Value} {ls st : List Value} {g : xG} {σ : xS} {τ : xL} {Q : xQ} {k : Nat} {raw : Instr} (hd : decode (x_by M.1) pc = .ok (raw, len)) (hi : x_oki (M.1, M.2.1, M.2.2.1, M.2.2.2.2.2.1) pc raw len (.iload k) a b v = true)
    (h : x_stp M (.iload k) (pc + len) a b v ls st g σ τ (fun pc ls st g σ τ => x_snd l M pc ls st g σ τ Q) Q (fun M' as g σ τ Q' => x_snd l M' 0 (x_loc as M'.2.2.1) [] g σ τ Q')) : x_snd l M pc ls st g σ τ Q := by
  intro hok p e R s m args below meth c fc D kc A Z n0 ad0 hK hex hA hscr hret ad H locs arr hW hS hag hl
  have go : ∀ {pc' : Nat} {ls' st' : List Value} {g' : xG} {σ' : xS} {τ' : xL}, x_snd l M pc' ls' st' g' σ' τ' Q → ∀ (ad' : Nat → Nat) (H' : Heap) (locs' : List Loc) (arr' : Array Slot), x_W kc D A ad' g' σ' τ' H' → va_S A s.heap H' locs' → x_ag M n0 ad0 ad' g' → x_lr ad' ls' arr' M.2.2.1 → W p l e R s m args below meth c H' locs' g'.2.2.1 g'.2.2.2 Z (F0 m pc' arr' (st'.map (x_cv ad'))) := fun k ad' H' locs' arr' w1 w2 w3 w4 => k hok p e R s m args below meth c fc D kc A Z n0 ad0 hK hex hA hscr hret ad' H' locs' arr' w1 w2 w3 w4
  obtain ⟨hx, hb, hml, hown, hts, hini, hr1, hr2, hr3, hr4⟩ := id fc
  simp only [x_stp] at h
  cases hq : x_nth ls k with
  | none => rw [hq] at h; exact h.elim
  | some w =>
    rw [hq] at h
    cases w <;> first | exact False.elim h | skip
    have hg := go h ad H locs arr hW hS hag hl
    have hv := x_lr_get hl hq (by simp)
    simp only [x_oki] at hi
    split at hi
    · obtain ⟨h1, h2⟩ := x_ok3 hi
      have e1 := Nat.eq_of_beq_eq_true h1
      have e2 := Nat.eq_of_beq_eq_true h2
      subst e1
      exact lv_iload_n hx hb hd e2 hv hg
    · obtain ⟨h1, h2⟩ := x_ok3 hi
      have e1 := Nat.eq_of_beq_eq_true h1
      have e2 := Nat.eq_of_beq_eq_true h2
      subst e1
      subst e2
      exact lv_iload hx hb hd hv hg
    · cases hi
set_option maxHeartbeats 1000000 in
theorem xs_lload (l : Launch) {M : xM} {pc len a b : Nat} {v : Value} {ls st : List Value} {g : xG} {σ : xS} {τ : xL} {Q : xQ} {k : Nat} {raw : Instr} (hd : decode (x_by M.1) pc = .ok (raw, len)) (hi : x_oki (M.1, M.2.1, M.2.2.1, M.2.2.2.2.2.1) pc raw len (.lload k) a b v = true)
    (h : x_stp M (.lload k) (pc + len) a b v ls st g σ τ (fun pc ls st g σ τ => x_snd l M pc ls st g σ τ Q) Q (fun M' as g σ τ Q' => x_snd l M' 0 (x_loc as M'.2.2.1) [] g σ τ Q')) : x_snd l M pc ls st g σ τ Q := by
  intro hok p e R s m args below meth c fc D kc A Z n0 ad0 hK hex hA hscr hret ad H locs arr hW hS hag hl
  have go : ∀ {pc' : Nat} {ls' st' : List Value} {g' : xG} {σ' : xS} {τ' : xL}, x_snd l M pc' ls' st' g' σ' τ' Q → ∀ (ad' : Nat → Nat) (H' : Heap) (locs' : List Loc) (arr' : Array Slot), x_W kc D A ad' g' σ' τ' H' → va_S A s.heap H' locs' → x_ag M n0 ad0 ad' g' → x_lr ad' ls' arr' M.2.2.1 → W p l e R s m args below meth c H' locs' g'.2.2.1 g'.2.2.2 Z (F0 m pc' arr' (st'.map (x_cv ad'))) := fun k ad' H' locs' arr' w1 w2 w3 w4 => k hok p e R s m args below meth c fc D kc A Z n0 ad0 hK hex hA hscr hret ad' H' locs' arr' w1 w2 w3 w4
  obtain ⟨hx, hb, hml, hown, hts, hini, hr1, hr2, hr3, hr4⟩ := id fc
  simp only [x_stp] at h
  cases hq : x_nth ls k with
  | none => rw [hq] at h; exact h.elim
  | some w =>
    rw [hq] at h
    cases w <;> first | exact False.elim h | skip
    have hg := go h ad H locs arr hW hS hag hl
    have hv := x_lr_get hl hq (by simp)
    simp only [x_oki] at hi
    split at hi
    · obtain ⟨h1, h2⟩ := x_ok3 hi
      have e1 := Nat.eq_of_beq_eq_true h1
      have e2 := Nat.eq_of_beq_eq_true h2
      subst e1
      exact lv_lload_n hx hb hd e2 hv hg
    · obtain ⟨h1, h2⟩ := x_ok3 hi
      have e1 := Nat.eq_of_beq_eq_true h1
      have e2 := Nat.eq_of_beq_eq_true h2
      subst e1
      subst e2
      exact lv_lload hx hb hd hv hg
    · cases hi
set_option maxHeartbeats 1000000 in
theorem xs_aload (l : Launch) {M : xM} {pc len a b : Nat} {v : Value} {ls st : List Value} {g : xG} {σ : xS} {τ : xL} {Q : xQ} {k : Nat} {raw : Instr} (hd : decode (x_by M.1) pc = .ok (raw, len)) (hi : x_oki (M.1, M.2.1, M.2.2.1, M.2.2.2.2.2.1) pc raw len (.aload k) a b v = true)
    (h : x_stp M (.aload k) (pc + len) a b v ls st g σ τ (fun pc ls st g σ τ => x_snd l M pc ls st g σ τ Q) Q (fun M' as g σ τ Q' => x_snd l M' 0 (x_loc as M'.2.2.1) [] g σ τ Q')) : x_snd l M pc ls st g σ τ Q := by
  intro hok p e R s m args below meth c fc D kc A Z n0 ad0 hK hex hA hscr hret ad H locs arr hW hS hag hl
  have go : ∀ {pc' : Nat} {ls' st' : List Value} {g' : xG} {σ' : xS} {τ' : xL}, x_snd l M pc' ls' st' g' σ' τ' Q → ∀ (ad' : Nat → Nat) (H' : Heap) (locs' : List Loc) (arr' : Array Slot), x_W kc D A ad' g' σ' τ' H' → va_S A s.heap H' locs' → x_ag M n0 ad0 ad' g' → x_lr ad' ls' arr' M.2.2.1 → W p l e R s m args below meth c H' locs' g'.2.2.1 g'.2.2.2 Z (F0 m pc' arr' (st'.map (x_cv ad'))) := fun k ad' H' locs' arr' w1 w2 w3 w4 => k hok p e R s m args below meth c fc D kc A Z n0 ad0 hK hex hA hscr hret ad' H' locs' arr' w1 w2 w3 w4
  obtain ⟨hx, hb, hml, hown, hts, hini, hr1, hr2, hr3, hr4⟩ := id fc
  simp only [x_stp] at h
  cases hq : x_nth ls k with
  | none => rw [hq] at h; exact h.elim
  | some w =>
    rw [hq] at h
    cases w <;> first | exact False.elim h | skip
    all_goals
      have hg := go h ad H locs arr hW hS hag hl
      have hv := x_lr_get hl hq (by simp)
      simp only [x_oki] at hi
      split at hi
      · obtain ⟨h1, h2⟩ := x_ok3 hi
        have e1 := Nat.eq_of_beq_eq_true h1
        have e2 := Nat.eq_of_beq_eq_true h2
        subst e1
        exact lv_aload_n hx hb hd e2 hv hg
      · obtain ⟨h1, h2⟩ := x_ok3 hi
        have e1 := Nat.eq_of_beq_eq_true h1
        have e2 := Nat.eq_of_beq_eq_true h2
        subst e1
        subst e2
        exact lv_aload hx hb hd hv hg
      · cases hi
set_option maxHeartbeats 1000000 in
theorem xs_istore (l : Launch) {M : xM} {pc len a b : Nat} {v : Value} {ls st : List Value} {g : xG} {σ : xS} {τ : xL} {Q : xQ} {k : Nat} {raw : Instr} (hd : decode (x_by M.1) pc = .ok (raw, len)) (hi : x_oki (M.1, M.2.1, M.2.2.1, M.2.2.2.2.2.1) pc raw len (.istore k) a b v = true)
    (h : x_stp M (.istore k) (pc + len) a b v ls st g σ τ (fun pc ls st g σ τ => x_snd l M pc ls st g σ τ Q) Q (fun M' as g σ τ Q' => x_snd l M' 0 (x_loc as M'.2.2.1) [] g σ τ Q')) : x_snd l M pc ls st g σ τ Q := by
  intro hok p e R s m args below meth c fc D kc A Z n0 ad0 hK hex hA hscr hret ad H locs arr hW hS hag hl
  have go : ∀ {pc' : Nat} {ls' st' : List Value} {g' : xG} {σ' : xS} {τ' : xL}, x_snd l M pc' ls' st' g' σ' τ' Q → ∀ (ad' : Nat → Nat) (H' : Heap) (locs' : List Loc) (arr' : Array Slot), x_W kc D A ad' g' σ' τ' H' → va_S A s.heap H' locs' → x_ag M n0 ad0 ad' g' → x_lr ad' ls' arr' M.2.2.1 → W p l e R s m args below meth c H' locs' g'.2.2.1 g'.2.2.2 Z (F0 m pc' arr' (st'.map (x_cv ad'))) := fun k ad' H' locs' arr' w1 w2 w3 w4 => k hok p e R s m args below meth c fc D kc A Z n0 ad0 hK hex hA hscr hret ad' H' locs' arr' w1 w2 w3 w4
  obtain ⟨hx, hb, hml, hown, hts, hini, hr1, hr2, hr3, hr4⟩ := id fc
  rcases st with _ | ⟨(x | _ | _ | _ | _ | _ | _), st⟩ <;> first | exact False.elim h | skip
  obtain ⟨hlow, h⟩ := x_bif_t h
  obtain ⟨-, h⟩ := x_set_iff _ _ _ h
  simp only [x_oki] at hi
  split at hi
  · obtain ⟨h1, h2⟩ := x_ok3 hi
    obtain ⟨h2, h3⟩ := x_ok3 h2
    have e1 := Nat.eq_of_beq_eq_true h1
    have e2 := Nat.eq_of_beq_eq_true h2
    subst e1
    exact lv_istore_n hx hb hd e2 hl (Nat.le_of_ble_eq_true h3) rfl (fun arr' hl' => go h ad H locs arr' hW hS hag (x_lr_store1 hlow hl'))
  · obtain ⟨h1, h2⟩ := x_ok3 hi
    obtain ⟨h2, h3⟩ := x_ok3 h2
    have e1 := Nat.eq_of_beq_eq_true h1
    have e2 := Nat.eq_of_beq_eq_true h2
    subst e1
    subst e2
    exact lv_istore hx hb hd hl (Nat.le_of_ble_eq_true h3) rfl (fun arr' hl' => go h ad H locs arr' hW hS hag (x_lr_store1 hlow hl'))
  · cases hi
set_option maxHeartbeats 1000000 in
theorem xs_astore (l : Launch) {M : xM} {pc len a b : Nat} {v : Value} {ls st : List Value} {g : xG} {σ : xS} {τ : xL} {Q : xQ} {k : Nat} {raw : Instr} (hd : decode (x_by M.1) pc = .ok (raw, len)) (hi : x_oki (M.1, M.2.1, M.2.2.1, M.2.2.2.2.2.1) pc raw len (.astore k) a b v = true)
    (h : x_stp M (.astore k) (pc + len) a b v ls st g σ τ (fun pc ls st g σ τ => x_snd l M pc ls st g σ τ Q) Q (fun M' as g σ τ Q' => x_snd l M' 0 (x_loc as M'.2.2.1) [] g σ τ Q')) : x_snd l M pc ls st g σ τ Q := by
  intro hok p e R s m args below meth c fc D kc A Z n0 ad0 hK hex hA hscr hret ad H locs arr hW hS hag hl
  have go : ∀ {pc' : Nat} {ls' st' : List Value} {g' : xG} {σ' : xS} {τ' : xL}, x_snd l M pc' ls' st' g' σ' τ' Q → ∀ (ad' : Nat → Nat) (H' : Heap) (locs' : List Loc) (arr' : Array Slot), x_W kc D A ad' g' σ' τ' H' → va_S A s.heap H' locs' → x_ag M n0 ad0 ad' g' → x_lr ad' ls' arr' M.2.2.1 → W p l e R s m args below meth c H' locs' g'.2.2.1 g'.2.2.2 Z (F0 m pc' arr' (st'.map (x_cv ad'))) := fun k ad' H' locs' arr' w1 w2 w3 w4 => k hok p e R s m args below meth c fc D kc A Z n0 ad0 hK hex hA hscr hret ad' H' locs' arr' w1 w2 w3 w4
  obtain ⟨hx, hb, hml, hown, hts, hini, hr1, hr2, hr3, hr4⟩ := id fc
  rcases st with _ | ⟨(_ | _ | _ | _ | _ | x | _), st⟩ <;> first | exact False.elim h | skip
  obtain ⟨hlow, h⟩ := x_bif_t h
  obtain ⟨-, h⟩ := x_set_iff _ _ _ h
  simp only [x_oki] at hi
  split at hi
  · obtain ⟨h1, h2⟩ := x_ok3 hi
    obtain ⟨h2, h3⟩ := x_ok3 h2
    have e1 := Nat.eq_of_beq_eq_true h1
    have e2 := Nat.eq_of_beq_eq_true h2
    subst e1
    exact lv_astore_n hx hb hd e2 hl (Nat.le_of_ble_eq_true h3) rfl (fun arr' hl' => go h ad H locs arr' hW hS hag (x_lr_store1 hlow hl'))
  · obtain ⟨h1, h2⟩ := x_ok3 hi
    obtain ⟨h2, h3⟩ := x_ok3 h2
    have e1 := Nat.eq_of_beq_eq_true h1
    have e2 := Nat.eq_of_beq_eq_true h2
    subst e1
    subst e2
    exact lv_astore hx hb hd hl (Nat.le_of_ble_eq_true h3) rfl (fun arr' hl' => go h ad H locs arr' hW hS hag (x_lr_store1 hlow hl'))
  · cases hi
set_option maxHeartbeats 1000000 in
theorem xs_lstore (l : Launch) {M : xM} {pc len a b : Nat} {v : Value} {ls st : List Value} {g : xG} {σ : xS} {τ : xL} {Q : xQ} {k : Nat} {raw : Instr} (hd : decode (x_by M.1) pc = .ok (raw, len)) (hi : x_oki (M.1, M.2.1, M.2.2.1, M.2.2.2.2.2.1) pc raw len (.lstore k) a b v = true)
    (h : x_stp M (.lstore k) (pc + len) a b v ls st g σ τ (fun pc ls st g σ τ => x_snd l M pc ls st g σ τ Q) Q (fun M' as g σ τ Q' => x_snd l M' 0 (x_loc as M'.2.2.1) [] g σ τ Q')) : x_snd l M pc ls st g σ τ Q := by
  intro hok p e R s m args below meth c fc D kc A Z n0 ad0 hK hex hA hscr hret ad H locs arr hW hS hag hl
  have go : ∀ {pc' : Nat} {ls' st' : List Value} {g' : xG} {σ' : xS} {τ' : xL}, x_snd l M pc' ls' st' g' σ' τ' Q → ∀ (ad' : Nat → Nat) (H' : Heap) (locs' : List Loc) (arr' : Array Slot), x_W kc D A ad' g' σ' τ' H' → va_S A s.heap H' locs' → x_ag M n0 ad0 ad' g' → x_lr ad' ls' arr' M.2.2.1 → W p l e R s m args below meth c H' locs' g'.2.2.1 g'.2.2.2 Z (F0 m pc' arr' (st'.map (x_cv ad'))) := fun k ad' H' locs' arr' w1 w2 w3 w4 => k hok p e R s m args below meth c fc D kc A Z n0 ad0 hK hex hA hscr hret ad' H' locs' arr' w1 w2 w3 w4
  obtain ⟨hx, hb, hml, hown, hts, hini, hr1, hr2, hr3, hr4⟩ := id fc
  rcases st with _ | ⟨(_ | x | _ | _ | _ | _ | _), st⟩ <;> first | exact False.elim h | skip
  obtain ⟨hlow, h⟩ := x_bif_t h
  obtain ⟨-, h⟩ := x_set_iff _ _ _ h
  obtain ⟨-, h⟩ := x_set_iff _ _ _ h
  simp only [x_oki] at hi
  split at hi
  · obtain ⟨h1, h2⟩ := x_ok3 hi
    obtain ⟨h2, h3⟩ := x_ok3 h2
    have e1 := Nat.eq_of_beq_eq_true h1
    have e2 := Nat.eq_of_beq_eq_true h2
    subst e1
    exact lv_lstore_n hx hb hd e2 hl (Nat.le_of_ble_eq_true h3) rfl (fun arr' hl' => go h ad H locs arr' hW hS hag (x_lr_store2 hlow hl'))
  · obtain ⟨h1, h2⟩ := x_ok3 hi
    obtain ⟨h2, h3⟩ := x_ok3 h2
    have e1 := Nat.eq_of_beq_eq_true h1
    have e2 := Nat.eq_of_beq_eq_true h2
    subst e1
    subst e2
    exact lv_lstore hx hb hd hl (Nat.le_of_ble_eq_true h3) rfl (fun arr' hl' => go h ad H locs arr' hW hS hag (x_lr_store2 hlow hl'))
  · cases hi
set_option maxHeartbeats 1000000 in
theorem xs_iinc (l : Launch) {M : xM} {pc len a b : Nat} {v : Value} {ls st : List Value} {g : xG} {σ : xS} {τ : xL} {Q : xQ} {k : Nat} {k2 : Int} {raw : Instr} (hd : decode (x_by M.1) pc = .ok (raw, len)) (hi : x_oki (M.1, M.2.1, M.2.2.1, M.2.2.2.2.2.1) pc raw len (.iinc k k2) a b v = true)
    (h : x_stp M (.iinc k k2) (pc + len) a b v ls st g σ τ (fun pc ls st g σ τ => x_snd l M pc ls st g σ τ Q) Q (fun M' as g σ τ Q' => x_snd l M' 0 (x_loc as M'.2.2.1) [] g σ τ Q')) : x_snd l M pc ls st g σ τ Q := by
  intro hok p e R s m args below meth c fc D kc A Z n0 ad0 hK hex hA hscr hret ad H locs arr hW hS hag hl
  have go : ∀ {pc' : Nat} {ls' st' : List Value} {g' : xG} {σ' : xS} {τ' : xL}, x_snd l M pc' ls' st' g' σ' τ' Q → ∀ (ad' : Nat → Nat) (H' : Heap) (locs' : List Loc) (arr' : Array Slot), x_W kc D A ad' g' σ' τ' H' → va_S A s.heap H' locs' → x_ag M n0 ad0 ad' g' → x_lr ad' ls' arr' M.2.2.1 → W p l e R s m args below meth c H' locs' g'.2.2.1 g'.2.2.2 Z (F0 m pc' arr' (st'.map (x_cv ad'))) := fun k ad' H' locs' arr' w1 w2 w3 w4 => k hok p e R s m args below meth c fc D kc A Z n0 ad0 hK hex hA hscr hret ad' H' locs' arr' w1 w2 w3 w4
  obtain ⟨hx, hb, hml, hown, hts, hini, hr1, hr2, hr3, hr4⟩ := id fc
  simp only [x_stp] at h
  cases hq : x_nth ls k with
  | none => rw [hq] at h; exact h.elim
  | some w =>
    rw [hq] at h
    cases w <;> first | exact False.elim h | skip
    rename_i x
    cases v <;> first | exact False.elim h | skip
    rename_i d
    obtain ⟨hlow, h⟩ := x_bif_t h
    obtain ⟨-, h⟩ := x_set_iff _ _ _ h
    simp only [x_oki] at hi
    split at hi
    · obtain ⟨h1, i2⟩ := x_ok3 hi
      obtain ⟨h2, i3⟩ := x_ok3 i2
      obtain ⟨h3, h4⟩ := x_ok3 i3
      have e1 := Nat.eq_of_beq_eq_true h1
      have e2 := Nat.eq_of_beq_eq_true h2
      have e4 := of_decide_eq_true h4
      subst e1
      subst e2
      cases e4
      rw [x_nth_get] at hq
      obtain ⟨j, hj⟩ := List.getElem?_of_mem ((x_as_mem (ad := ad) ls 0 _).mpr ⟨_, _, hq, by simp, rfl⟩)
      rw [Nat.zero_add] at hj
      exact lv_iinc hx hb hd hl hj rfl (Nat.le_of_ble_eq_true h3) rfl (fun arr' hl' => go h ad H locs arr' hW hS hag (x_lr_store1 hlow hl'))
    · cases hi
set_option maxHeartbeats 1000000 in
theorem xs_ifCond (l : Launch) {M : xM} {pc len a b : Nat} {v : Value} {ls st : List Value} {g : xG} {σ : xS} {τ : xL} {Q : xQ} {cd : ClassFile.Cond} {k2 : Int} {raw : Instr} (hd : decode (x_by M.1) pc = .ok (raw, len)) (hi : x_oki (M.1, M.2.1, M.2.2.1, M.2.2.2.2.2.1) pc raw len (.ifCond cd k2) a b v = true)
    (h : x_stp M (.ifCond cd k2) (pc + len) a b v ls st g σ τ (fun pc ls st g σ τ => x_snd l M pc ls st g σ τ Q) Q (fun M' as g σ τ Q' => x_snd l M' 0 (x_loc as M'.2.2.1) [] g σ τ Q')) : x_snd l M pc ls st g σ τ Q := by
  intro hok p e R s m args below meth c fc D kc A Z n0 ad0 hK hex hA hscr hret ad H locs arr hW hS hag hl
  have go : ∀ {pc' : Nat} {ls' st' : List Value} {g' : xG} {σ' : xS} {τ' : xL}, x_snd l M pc' ls' st' g' σ' τ' Q → ∀ (ad' : Nat → Nat) (H' : Heap) (locs' : List Loc) (arr' : Array Slot), x_W kc D A ad' g' σ' τ' H' → va_S A s.heap H' locs' → x_ag M n0 ad0 ad' g' → x_lr ad' ls' arr' M.2.2.1 → W p l e R s m args below meth c H' locs' g'.2.2.1 g'.2.2.2 Z (F0 m pc' arr' (st'.map (x_cv ad'))) := fun k ad' H' locs' arr' w1 w2 w3 w4 => k hok p e R s m args below meth c fc D kc A Z n0 ad0 hK hex hA hscr hret ad' H' locs' arr' w1 w2 w3 w4
  obtain ⟨hx, hb, hml, hown, hts, hini, hr1, hr2, hr3, hr4⟩ := id fc
  rcases st with _ | ⟨(y | _ | _ | _ | _ | _ | _), st⟩ <;> first | exact False.elim h | skip
  simp only [x_oki] at hi
  split at hi
  · obtain ⟨h1, h2⟩ := x_ok3 hi
    obtain ⟨h2, h3⟩ := x_ok3 h2
    have e1 := Nat.eq_of_beq_eq_true h1
    have e2 := of_decide_eq_true h2
    have e3 := of_decide_eq_true h3
    subst e1
    rw [e2] at hd
    simp only [x_stp] at h
    cases cd
    · exact lv_if_eq hx hb hd e3 (fun q => go (h.1 q) ad H locs arr hW hS hag hl) (fun q => go (h.2 q) ad H locs arr hW hS hag hl)
    · exact lv_if_ne hx hb hd e3 (fun q => go (h.1 q) ad H locs arr hW hS hag hl) (fun q => go (h.2 q) ad H locs arr hW hS hag hl)
    · exact lv_if_lt hx hb hd e3 (fun q => go (h.1 q) ad H locs arr hW hS hag hl) (fun q => go (h.2 q) ad H locs arr hW hS hag hl)
    · exact lv_if_ge hx hb hd e3 (fun q => go (h.1 q) ad H locs arr hW hS hag hl) (fun q => go (h.2 q) ad H locs arr hW hS hag hl)
    · exact lv_if_gt hx hb hd e3 (fun q => go (h.1 q) ad H locs arr hW hS hag hl) (fun q => go (h.2 q) ad H locs arr hW hS hag hl)
    · exact lv_if_le hx hb hd e3 (fun q => go (h.1 q) ad H locs arr hW hS hag hl) (fun q => go (h.2 q) ad H locs arr hW hS hag hl)
  · cases hi
set_option maxHeartbeats 1000000 in
theorem xs_if_icmp (l : Launch) {M : xM} {pc len a b : Nat} {v : Value} {ls st : List Value} {g : xG} {σ : xS} {τ : xL} {Q : xQ} {cd : ClassFile.Cond} {k2 : Int} {raw : Instr} (hd : decode (x_by M.1) pc = .ok (raw, len)) (hi : x_oki (M.1, M.2.1, M.2.2.1, M.2.2.2.2.2.1) pc raw len (.if_icmp cd k2) a b v = true)
    (h : x_stp M (.if_icmp cd k2) (pc + len) a b v ls st g σ τ (fun pc ls st g σ τ => x_snd l M pc ls st g σ τ Q) Q (fun M' as g σ τ Q' => x_snd l M' 0 (x_loc as M'.2.2.1) [] g σ τ Q')) : x_snd l M pc ls st g σ τ Q := by
  intro hok p e R s m args below meth c fc D kc A Z n0 ad0 hK hex hA hscr hret ad H locs arr hW hS hag hl
  have go : ∀ {pc' : Nat} {ls' st' : List Value} {g' : xG} {σ' : xS} {τ' : xL}, x_snd l M pc' ls' st' g' σ' τ' Q → ∀ (ad' : Nat → Nat) (H' : Heap) (locs' : List Loc) (arr' : Array Slot), x_W kc D A ad' g' σ' τ' H' → va_S A s.heap H' locs' → x_ag M n0 ad0 ad' g' → x_lr ad' ls' arr' M.2.2.1 → W p l e R s m args below meth c H' locs' g'.2.2.1 g'.2.2.2 Z (F0 m pc' arr' (st'.map (x_cv ad'))) := fun k ad' H' locs' arr' w1 w2 w3 w4 => k hok p e R s m args below meth c fc D kc A Z n0 ad0 hK hex hA hscr hret ad' H' locs' arr' w1 w2 w3 w4
  obtain ⟨hx, hb, hml, hown, hts, hini, hr1, hr2, hr3, hr4⟩ := id fc
  rcases st with _ | ⟨(y | _ | _ | _ | _ | _ | _), st⟩ <;> first | exact False.elim h | skip
  rcases st with _ | ⟨(x | _ | _ | _ | _ | _ | _), st⟩ <;> first | exact False.elim h | skip
  simp only [x_oki] at hi
  split at hi
  · obtain ⟨h1, h2⟩ := x_ok3 hi
    obtain ⟨h2, h3⟩ := x_ok3 h2
    have e1 := Nat.eq_of_beq_eq_true h1
    have e2 := of_decide_eq_true h2
    have e3 := of_decide_eq_true h3
    subst e1
    rw [e2] at hd
    simp only [x_stp] at h
    cases cd
    · exact lv_icmp_eq hx hb hd e3 (fun q => go (h.1 q) ad H locs arr hW hS hag hl) (fun q => go (h.2 q) ad H locs arr hW hS hag hl)
    · exact lv_icmp_ne hx hb hd e3 (fun q => go (h.1 q) ad H locs arr hW hS hag hl) (fun q => go (h.2 q) ad H locs arr hW hS hag hl)
    · exact lv_icmp_lt hx hb hd e3 (fun q => go (h.1 q) ad H locs arr hW hS hag hl) (fun q => go (h.2 q) ad H locs arr hW hS hag hl)
    · exact lv_icmp_ge hx hb hd e3 (fun q => go (h.1 q) ad H locs arr hW hS hag hl) (fun q => go (h.2 q) ad H locs arr hW hS hag hl)
    · exact lv_icmp_gt hx hb hd e3 (fun q => go (h.1 q) ad H locs arr hW hS hag hl) (fun q => go (h.2 q) ad H locs arr hW hS hag hl)
    · exact lv_icmp_le hx hb hd e3 (fun q => go (h.1 q) ad H locs arr hW hS hag hl) (fun q => go (h.2 q) ad H locs arr hW hS hag hl)
  · cases hi
set_option maxHeartbeats 1000000 in
theorem xs_goto (l : Launch) {M : xM} {pc len a b : Nat} {v : Value} {ls st : List Value} {g : xG} {σ : xS} {τ : xL} {Q : xQ} {k2 : Int} {raw : Instr} (hd : decode (x_by M.1) pc = .ok (raw, len)) (hi : x_oki (M.1, M.2.1, M.2.2.1, M.2.2.2.2.2.1) pc raw len (.goto k2) a b v = true)
    (h : x_stp M (.goto k2) (pc + len) a b v ls st g σ τ (fun pc ls st g σ τ => x_snd l M pc ls st g σ τ Q) Q (fun M' as g σ τ Q' => x_snd l M' 0 (x_loc as M'.2.2.1) [] g σ τ Q')) : x_snd l M pc ls st g σ τ Q := by
  intro hok p e R s m args below meth c fc D kc A Z n0 ad0 hK hex hA hscr hret ad H locs arr hW hS hag hl
  have go : ∀ {pc' : Nat} {ls' st' : List Value} {g' : xG} {σ' : xS} {τ' : xL}, x_snd l M pc' ls' st' g' σ' τ' Q → ∀ (ad' : Nat → Nat) (H' : Heap) (locs' : List Loc) (arr' : Array Slot), x_W kc D A ad' g' σ' τ' H' → va_S A s.heap H' locs' → x_ag M n0 ad0 ad' g' → x_lr ad' ls' arr' M.2.2.1 → W p l e R s m args below meth c H' locs' g'.2.2.1 g'.2.2.2 Z (F0 m pc' arr' (st'.map (x_cv ad'))) := fun k ad' H' locs' arr' w1 w2 w3 w4 => k hok p e R s m args below meth c fc D kc A Z n0 ad0 hK hex hA hscr hret ad' H' locs' arr' w1 w2 w3 w4
  obtain ⟨hx, hb, hml, hown, hts, hini, hr1, hr2, hr3, hr4⟩ := id fc
  simp only [x_oki] at hi
  split at hi
  · obtain ⟨e1, e3⟩ := x_ok2 hi
    subst e1
    exact lv_goto hx hb hd e3 (go h ad H locs arr hW hS hag hl)
  · cases hi
set_option maxHeartbeats 1000000 in
theorem xs_ireturn (l : Launch) {M : xM} {pc len a b : Nat} {v : Value} {ls st : List Value} {g : xG} {σ : xS} {τ : xL} {Q : xQ} {raw : Instr} (hd : decode (x_by M.1) pc = .ok (raw, len)) (hi : x_oki (M.1, M.2.1, M.2.2.1, M.2.2.2.2.2.1) pc raw len .ireturn a b v = true)
    (h : x_stp M .ireturn (pc + len) a b v ls st g σ τ (fun pc ls st g σ τ => x_snd l M pc ls st g σ τ Q) Q (fun M' as g σ τ Q' => x_snd l M' 0 (x_loc as M'.2.2.1) [] g σ τ Q')) : x_snd l M pc ls st g σ τ Q := by
  intro hok p e R s m args below meth c fc D kc A Z n0 ad0 hK hex hA hscr hret ad H locs arr hW hS hag hl
  have go : ∀ {pc' : Nat} {ls' st' : List Value} {g' : xG} {σ' : xS} {τ' : xL}, x_snd l M pc' ls' st' g' σ' τ' Q → ∀ (ad' : Nat → Nat) (H' : Heap) (locs' : List Loc) (arr' : Array Slot), x_W kc D A ad' g' σ' τ' H' → va_S A s.heap H' locs' → x_ag M n0 ad0 ad' g' → x_lr ad' ls' arr' M.2.2.1 → W p l e R s m args below meth c H' locs' g'.2.2.1 g'.2.2.2 Z (F0 m pc' arr' (st'.map (x_cv ad'))) := fun k ad' H' locs' arr' w1 w2 w3 w4 => k hok p e R s m args below meth c fc D kc A Z n0 ad0 hK hex hA hscr hret ad' H' locs' arr' w1 w2 w3 w4
  obtain ⟨hx, hb, hml, hown, hts, hini, hr1, hr2, hr3, hr4⟩ := id fc
  obtain ⟨rfl, rfl⟩ := x_ok1 (i := .ireturn) hi
  rcases st with _ | ⟨(x | _ | _ | _ | _ | _ | _), (_ | ⟨_, _⟩)⟩ <;> first | exact False.elim h | skip
  simp only [x_stp] at h
  cases hq : Nat.beq M.2.2.2.2.1 1
  · rw [hq] at h
    obtain ⟨h1, h2, h3⟩ := x_bif_t h
    exact hret (some (.int x)) g σ τ ad H locs arr pc h3 hW hS hag ⟨hd, Or.inr ⟨Nat.eq_of_beq_eq_true h1, h2⟩⟩
  · rw [hq] at h
    exact hret (some (.int x)) g σ τ ad H locs arr pc h hW hS hag ⟨hd, Or.inl (Nat.eq_of_beq_eq_true hq)⟩
set_option maxHeartbeats 1000000 in
theorem xs_lreturn (l : Launch) {M : xM} {pc len a b : Nat} {v : Value} {ls st : List Value} {g : xG} {σ : xS} {τ : xL} {Q : xQ} {raw : Instr} (hd : decode (x_by M.1) pc = .ok (raw, len)) (hi : x_oki (M.1, M.2.1, M.2.2.1, M.2.2.2.2.2.1) pc raw len .lreturn a b v = true)
    (h : x_stp M .lreturn (pc + len) a b v ls st g σ τ (fun pc ls st g σ τ => x_snd l M pc ls st g σ τ Q) Q (fun M' as g σ τ Q' => x_snd l M' 0 (x_loc as M'.2.2.1) [] g σ τ Q')) : x_snd l M pc ls st g σ τ Q := by
  intro hok p e R s m args below meth c fc D kc A Z n0 ad0 hK hex hA hscr hret ad H locs arr hW hS hag hl
  have go : ∀ {pc' : Nat} {ls' st' : List Value} {g' : xG} {σ' : xS} {τ' : xL}, x_snd l M pc' ls' st' g' σ' τ' Q → ∀ (ad' : Nat → Nat) (H' : Heap) (locs' : List Loc) (arr' : Array Slot), x_W kc D A ad' g' σ' τ' H' → va_S A s.heap H' locs' → x_ag M n0 ad0 ad' g' → x_lr ad' ls' arr' M.2.2.1 → W p l e R s m args below meth c H' locs' g'.2.2.1 g'.2.2.2 Z (F0 m pc' arr' (st'.map (x_cv ad'))) := fun k ad' H' locs' arr' w1 w2 w3 w4 => k hok p e R s m args below meth c fc D kc A Z n0 ad0 hK hex hA hscr hret ad' H' locs' arr' w1 w2 w3 w4
  obtain ⟨hx, hb, hml, hown, hts, hini, hr1, hr2, hr3, hr4⟩ := id fc
  obtain ⟨rfl, rfl⟩ := x_ok1 (i := .lreturn) hi
  rcases st with _ | ⟨(_ | x | _ | _ | _ | _ | _), (_ | ⟨_, _⟩)⟩ <;> first | exact False.elim h | skip
  obtain ⟨h1, h2⟩ := x_bif_t h
  exact hret (some (.long x)) g σ τ ad H locs arr pc h2 hW hS hag ⟨Nat.eq_of_beq_eq_true h1, hd⟩
set_option maxHeartbeats 1000000 in
theorem xs_return (l : Launch) {M : xM} {pc len a b : Nat} {v : Value} {ls st : List Value} {g : xG} {σ : xS} {τ : xL} {Q : xQ} {raw : Instr} (hd : decode (x_by M.1) pc = .ok (raw, len)) (hi : x_oki (M.1, M.2.1, M.2.2.1, M.2.2.2.2.2.1) pc raw len .return_ a b v = true)
    (h : x_stp M .return_ (pc + len) a b v ls st g σ τ (fun pc ls st g σ τ => x_snd l M pc ls st g σ τ Q) Q (fun M' as g σ τ Q' => x_snd l M' 0 (x_loc as M'.2.2.1) [] g σ τ Q')) : x_snd l M pc ls st g σ τ Q := by
  intro hok p e R s m args below meth c fc D kc A Z n0 ad0 hK hex hA hscr hret ad H locs arr hW hS hag hl
  have go : ∀ {pc' : Nat} {ls' st' : List Value} {g' : xG} {σ' : xS} {τ' : xL}, x_snd l M pc' ls' st' g' σ' τ' Q → ∀ (ad' : Nat → Nat) (H' : Heap) (locs' : List Loc) (arr' : Array Slot), x_W kc D A ad' g' σ' τ' H' → va_S A s.heap H' locs' → x_ag M n0 ad0 ad' g' → x_lr ad' ls' arr' M.2.2.1 → W p l e R s m args below meth c H' locs' g'.2.2.1 g'.2.2.2 Z (F0 m pc' arr' (st'.map (x_cv ad'))) := fun k ad' H' locs' arr' w1 w2 w3 w4 => k hok p e R s m args below meth c fc D kc A Z n0 ad0 hK hex hA hscr hret ad' H' locs' arr' w1 w2 w3 w4
  obtain ⟨hx, hb, hml, hown, hts, hini, hr1, hr2, hr3, hr4⟩ := id fc
  obtain ⟨rfl, rfl⟩ := x_ok1 (i := .return_) hi
  rcases st with _ | ⟨_, _⟩ <;> first | exact False.elim h | skip
  obtain ⟨h1, h2⟩ := x_bif_t h
  exact hret none g σ τ ad H locs arr pc h2 hW hS hag ⟨Nat.eq_of_beq_eq_true h1, hd⟩
