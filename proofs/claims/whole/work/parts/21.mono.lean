theorem x_set_mono {K K' : List Value → Prop} (hK : ∀ l, K l → K' l) : ∀ (ls : List Value) (k : Nat) (v : Value), x_set ls k v K → x_set ls k v K'
  | [], _, _, h => h
  | _ :: _, 0, _, h => hK _ h
  | _ :: xs, k + 1, v, h => by
    have key : ∀ {K K' : List Value → Prop}, (∀ l, K l → K' l) → x_set xs k v K → x_set xs k v K' := fun hK => x_set_mono hK xs k v
    exact key (fun l hl => hK _ hl) h
theorem x_pop_mono {K K' : List Value → List Value → Prop} (hK : ∀ a b, K a b → K' a b) : ∀ (n : Nat) (st as : List Value), x_pop n st as K → x_pop n st as K'
  | 0, _, _, h => hK _ _ h
  | _ + 1, [], _, h => h
  | n + 1, v :: st, as, h => x_pop_mono hK n st (v :: as) h
theorem x_sw_mono {K K' : Nat → Prop} (hK : ∀ p, K p → K' p) : ∀ (l : List (Int32 × Nat)) (x : Int32) (d : Nat), x_sw l x d K → x_sw l x d K'
  | [], _, _, h => hK _ h
  | (_, _) :: r, x, d, h => ⟨fun e => hK _ (h.1 e), fun e => x_sw_mono hK r x d (h.2 e)⟩
theorem x_br_mono {c : ClassFile.Cond} {x y : Int32} {A B A' B' : Prop} (hA : A → A') (hB : B → B') (h : x_br c x y A B) : x_br c x y A' B' := by
  cases c <;> exact ⟨fun e => hA (h.1 e), fun e => hB (h.2 e)⟩
theorem x_bif {c : Bool} {A B : Prop} (hA : c = true → A → B) (h : bif c then A else False) : bif c then B else False := by
  cases c
  · exact h
  · exact hA rfl h
theorem x_bif_t {c : Bool} {A : Prop} (h : bif c then A else False) : c = true ∧ A := by
  cases c
  · exact h.elim
  · exact ⟨rfl, h⟩
section XMONO
variable {M : xM} {nx a b : Nat} {v : Value} {ls st : List Value} {g : xG} {σ : xS} {τ : xL} {K K' : Nat → List Value → List Value → xG → xS → xL → Prop} {F F' : xQ} {C C' : xM → List Value → xG → xS → xL → xQ → Prop}
theorem x_call_mono (hK : ∀ pc ls st g σ τ, K pc ls st g σ τ → K' pc ls st g σ τ) (hC : ∀ M as g σ τ (Q Q' : xQ), (∀ r g σ τ, Q r g σ τ → Q' r g σ τ) → C M as g σ τ Q → C' M as g σ τ Q') {isv : Bool} (h : x_call M nx a isv ls st g σ τ K C) : x_call M nx a isv ls st g σ τ K' C' := by
  unfold x_call at h ⊢
  generalize x_nth x_tab a = o at h ⊢
  cases o with
  | none => exact h
  | some M' => exact x_bif (fun _ h => x_pop_mono (fun as rest h => x_bif (fun _ h => hC _ _ _ _ _ _ _ (fun r g σ τ h => hK _ _ _ _ _ _ h) h) h) _ _ _ h) h
set_option maxHeartbeats 4000000 in
theorem x_stp_mono (hK : ∀ pc ls st g σ τ, K pc ls st g σ τ → K' pc ls st g σ τ) (hF : ∀ r g σ τ, F r g σ τ → F' r g σ τ) (hC : ∀ M as g σ τ (Q Q' : xQ), (∀ r g σ τ, Q r g σ τ → Q' r g σ τ) → C M as g σ τ Q → C' M as g σ τ Q') {i : Instr} (h : x_stp M i nx a b v ls st g σ τ K F C) : x_stp M i nx a b v ls st g σ τ K' F' C' := by
  cases i
  all_goals first
    | exact False.elim h
    | exact hK _ _ _ _ _ _ h
    | exact x_call_mono hK hC h
    | skip
  case iload k | lload k | aload k =>
    simp only [x_stp] at h ⊢
    generalize x_nth ls k = o at h ⊢
    rcases o with _ | (_ | _ | _ | _ | _ | _ | _) <;> first | exact False.elim h | exact hK _ _ _ _ _ _ h
  case istore k | astore k =>
    rcases st with _ | ⟨(_ | _ | _ | _ | _ | _ | _), st⟩ <;> first | exact False.elim h | exact x_bif (fun _ h => x_set_mono (fun l h => hK _ _ _ _ _ _ h) _ _ _ h) h
  case lstore k =>
    rcases st with _ | ⟨(_ | _ | _ | _ | _ | _ | _), st⟩ <;> first | exact False.elim h | exact x_bif (fun _ h => x_set_mono (fun l h => x_set_mono (fun l h => hK _ _ _ _ _ _ h) _ _ _ h) _ _ _ h) h
  case iinc k n =>
    simp only [x_stp] at h ⊢
    generalize x_nth ls k = o at h ⊢
    rcases o with _ | (_ | _ | _ | _ | _ | _ | _) <;> first | exact False.elim h | skip
    rcases v with _ | _ | _ | _ | _ | _ | _ <;> first | exact False.elim h | exact x_bif (fun _ h => x_set_mono (fun l h => hK _ _ _ _ _ _ h) _ _ _ h) h
  case iadd | isub | imul | iand | ior | ixor | ishl | ishr | iushr | ladd | lmul | lcmp | i2l | i2b | l2i | ineg | dup | dup2 | pop =>
    rcases st with _ | ⟨(_ | _ | _ | _ | _ | _ | _), st⟩ <;> first | exact False.elim h | exact hK _ _ _ _ _ _ h | (rcases st with _ | ⟨(_ | _ | _ | _ | _ | _ | _), st⟩ <;> first | exact False.elim h | exact hK _ _ _ _ _ _ h)
  case dadd | dsub | dneg =>
    rcases st with _ | ⟨(_ | _ | _ | _ | _ | _ | _), st⟩ <;> first | exact False.elim h | exact x_bif (fun _ h => hK _ _ _ _ _ _ h) h | (rcases st with _ | ⟨(_ | _ | _ | _ | _ | _ | _), st⟩ <;> first | exact False.elim h | exact x_bif (fun _ h => hK _ _ _ _ _ _ h) h)
  case idiv | irem | ldiv | lrem =>
    rcases st with _ | ⟨(_ | _ | _ | _ | _ | _ | _), st⟩ <;> first | exact False.elim h | (rcases st with _ | ⟨(_ | _ | _ | _ | _ | _ | _), st⟩ <;> first | exact False.elim h | exact ⟨h.1, hK _ _ _ _ _ _ h.2⟩)
  case ifCond c o =>
    rcases st with _ | ⟨(_ | _ | _ | _ | _ | _ | _), st⟩ <;> first | exact False.elim h | exact x_br_mono (fun h => hK _ _ _ _ _ _ h) (fun h => hK _ _ _ _ _ _ h) h
  case if_icmp c o =>
    rcases st with _ | ⟨(_ | _ | _ | _ | _ | _ | _), st⟩ <;> first | exact False.elim h | (rcases st with _ | ⟨(_ | _ | _ | _ | _ | _ | _), st⟩ <;> first | exact False.elim h | exact x_br_mono (fun h => hK _ _ _ _ _ _ h) (fun h => hK _ _ _ _ _ _ h) h)
  case lookupswitch d ps =>
    simp only [x_stp] at h ⊢
    generalize x_nth x_swt b = o at h ⊢
    rcases st with _ | ⟨(_ | _ | _ | _ | _ | _ | _), st⟩ <;> rcases o with _ | sw <;> first | exact False.elim h | exact x_sw_mono (fun p h => hK _ _ _ _ _ _ h) _ _ _ h
  case getfield k =>
    rcases st with _ | ⟨(_ | _ | _ | _ | _ | q | _), st⟩ <;> first | exact False.elim h | skip
    simp only [x_stp] at h ⊢
    generalize x_nth g.1 q = o at h ⊢
    rcases o with _ | ⟨kd, n⟩
    · exact h
    · refine x_bif (fun _ h => ?_) h
      generalize g.2.1 q b = o at h ⊢
      rcases v with _ | _ | _ | _ | _ | _ | _ <;> first | exact hK _ _ _ _ _ _ h | (rcases o with _ | r <;> first | exact False.elim h | exact hK _ _ _ _ _ _ h)
  case putfield k =>
    rcases st with _ | ⟨x, st⟩
    · exact h
    rcases st with _ | ⟨(_ | _ | _ | _ | _ | q | _), st⟩ <;> first | exact False.elim h | skip
    simp only [x_stp] at h ⊢
    generalize x_nth g.1 q = o at h ⊢
    rcases o with _ | ⟨kd, n⟩
    · exact h
    · refine x_bif (fun _ h => ?_) h
      rcases v with _ | _ | _ | _ | _ | _ | _ <;> rcases x with _ | _ | _ | _ | _ | _ | _ <;> first | exact False.elim h | exact hK _ _ _ _ _ _ h | exact x_bif (fun _ h => hK _ _ _ _ _ _ h) h
  case iaload | baload =>
    rcases st with _ | ⟨(_ | _ | _ | _ | _ | _ | _), st⟩ <;> first | exact False.elim h | (rcases st with _ | ⟨(_ | _ | _ | _ | _ | _ | _), st⟩ <;> first | exact False.elim h | exact ⟨h.1, hK _ _ _ _ _ _ h.2⟩ | exact ⟨h.1, hK _ _ _ _ _ _ h.2⟩ | (obtain ⟨n, h1, h2, h3⟩ := h; exact ⟨n, h1, h2, hK _ _ _ _ _ _ h3⟩))
  case iastore | bastore =>
    rcases st with _ | ⟨(_ | _ | _ | _ | _ | _ | _), st⟩ <;> first | exact False.elim h | (rcases st with _ | ⟨(_ | _ | _ | _ | _ | _ | _), st⟩ <;> first | exact False.elim h | (rcases st with _ | ⟨(_ | _ | _ | _ | _ | _ | _), st⟩ <;> first | exact False.elim h | (obtain ⟨n, h1, h2, h3⟩ := h; first | exact ⟨n, h1, h2, hK _ _ _ _ _ _ h3⟩ | exact ⟨n, h1, h2, h3.1, hK _ _ _ _ _ _ h3.2⟩)))
  case aaload =>
    rcases st with _ | ⟨(_ | _ | _ | _ | _ | _ | _), st⟩ <;> first | exact False.elim h | (rcases st with _ | ⟨(_ | _ | _ | _ | _ | _ | _), st⟩ <;> first | exact False.elim h | (obtain ⟨kd, n, r, h1, h2, h3, h4, h5⟩ := h; exact ⟨kd, n, r, h1, h2, h3, h4, hK _ _ _ _ _ _ h5⟩))
  case aastore =>
    rcases st with _ | ⟨(_ | _ | _ | _ | _ | _ | _), st⟩ <;> first | exact False.elim h | (rcases st with _ | ⟨(_ | _ | _ | _ | _ | _ | _), st⟩ <;> first | exact False.elim h | (rcases st with _ | ⟨(_ | _ | _ | _ | _ | _ | _), st⟩ <;> first | exact False.elim h | (obtain ⟨n, m, h1, h2, h3, h4⟩ := h; exact ⟨n, m, h1, h2, h3, hK _ _ _ _ _ _ h4⟩)))
  case arraylength =>
    rcases st with _ | ⟨(_ | _ | _ | _ | _ | _ | _), st⟩ <;> first | exact False.elim h | exact ⟨h.1, hK _ _ _ _ _ _ h.2⟩ | (obtain ⟨kd, n, h1, h2, h3⟩ := h; exact ⟨kd, n, h1, h2, hK _ _ _ _ _ _ h3⟩)
  case invokedynamic k =>
    rcases st with _ | ⟨(_ | _ | _ | _ | _ | _ | _), st⟩ <;> first | exact False.elim h | exact x_bif (fun _ h => hK _ _ _ _ _ _ h) h
  case invokeinterface k n =>
    rcases st with _ | ⟨(_ | _ | _ | _ | _ | _ | _), st⟩ <;> first | exact False.elim h | skip
    rcases st with _ | ⟨(_ | _ | _ | _ | _ | _ | _), st⟩ <;> first | exact False.elim h | skip
    rcases st with _ | ⟨(_ | _ | _ | _ | _ | _ | _), st⟩ <;> first | exact False.elim h | skip
    rcases st with _ | ⟨(_ | _ | _ | _ | _ | _ | _), st⟩ <;> first | exact False.elim h | skip
    rcases st with _ | ⟨(_ | _ | _ | _ | _ | _ | _), st⟩ <;> first | exact False.elim h | skip
    obtain ⟨n0, n1, h1, h2, h3, h4⟩ := h
    exact ⟨n0, n1, h1, h2, h3, x_bif (fun _ h => hK _ _ _ _ _ _ h) h4⟩
  case new k => exact x_bif (fun _ h => hK _ _ _ _ _ _ h) h
  case newarray t =>
    rcases st with _ | ⟨(_ | _ | _ | _ | _ | _ | _), st⟩ <;> first | exact False.elim h | skip
    obtain ⟨N, h1, h2, h3⟩ := h
    refine ⟨N, h1, h2, x_bif (fun _ h => ?_) h3⟩
    cases t <;> first | exact False.elim h | exact hK _ _ _ _ _ _ h
  case anewarray k =>
    rcases st with _ | ⟨(_ | _ | _ | _ | _ | _ | _), st⟩ <;> first | exact False.elim h | skip
    obtain ⟨N, h1, h2, h3⟩ := h
    exact ⟨N, h1, h2, x_bif (fun _ h => hK _ _ _ _ _ _ h) h3⟩
  case multianewarray k d =>
    rcases st with _ | ⟨(_ | _ | _ | _ | _ | _ | _), st⟩ <;> first | exact False.elim h | skip
    rcases st with _ | ⟨(_ | _ | _ | _ | _ | _ | _), st⟩ <;> first | exact False.elim h | skip
    obtain ⟨N, P, h1, h2, h3, h4, h5⟩ := h
    exact ⟨N, P, h1, h2, h3, h4, x_bif (fun _ h => hK _ _ _ _ _ _ h) h5⟩
  case ireturn =>
    rcases st with _ | ⟨(_ | _ | _ | _ | _ | _ | _), (_ | ⟨_, _⟩)⟩ <;> first | exact False.elim h | skip
    simp only [x_stp] at h ⊢
    cases hq : Nat.beq M.2.2.2.2.1 1
    · rw [hq] at h
      exact x_bif (fun _ h => ⟨h.1, hF _ _ _ _ h.2⟩) h
    · rw [hq] at h
      exact hF _ _ _ _ h
  case lreturn =>
    rcases st with _ | ⟨(_ | _ | _ | _ | _ | _ | _), (_ | ⟨_, _⟩)⟩ <;> first | exact False.elim h | exact x_bif (fun _ h => hF _ _ _ _ h) h
  case return_ =>
    rcases st with _ | ⟨_, _⟩ <;> first | exact False.elim h | exact x_bif (fun _ h => hF _ _ _ _ h) h
end XMONO
theorem x_one_mono {X X' : xM → Nat → List Value → List Value → xG → xS → xL → xQ → Prop} {M : xM} {pc : Nat} {ls st : List Value} {g : xG} {σ : xS} {τ : xL} {Q Q' : xQ} (hQ : ∀ r g σ τ, Q r g σ τ → Q' r g σ τ)
    (hX : ∀ M pc ls st g σ τ (Q Q' : xQ), (∀ r g σ τ, Q r g σ τ → Q' r g σ τ) → X M pc ls st g σ τ Q → X' M pc ls st g σ τ Q') (h : x_one X M pc ls st g σ τ Q) : x_one X' M pc ls st g σ τ Q' := by
  unfold x_one at h ⊢
  generalize x_fnd M.2.2.2.2.2.2.1 pc = o at h ⊢
  rcases o with _ | ⟨i, nx, a, b, v⟩
  · exact h
  · exact x_stp_mono (K := fun pc ls st g σ τ => X M pc ls st g σ τ Q) (C := fun M' as g σ τ Q' => X M' 0 (x_loc as M'.2.2.1) [] g σ τ Q') (F := Q) (fun _ _ _ _ _ _ h => hX _ _ _ _ _ _ _ _ _ hQ h) hQ (fun _ _ _ _ _ _ _ hq h => hX _ _ _ _ _ _ _ _ _ hq h) h
theorem Ev.mono {M : xM} {pc : Nat} {ls st : List Value} {g : xG} {σ : xS} {τ : xL} {Q Q' : xQ} (h : Ev M pc ls st g σ τ Q) (hQ : ∀ r g σ τ, Q r g σ τ → Q' r g σ τ) : Ev M pc ls st g σ τ Q' := by
  refine h (fun M pc ls st g σ τ Q => ∀ Q' : xQ, (∀ r g σ τ, Q r g σ τ → Q' r g σ τ) → Ev M pc ls st g σ τ Q') ?_ Q' hQ
  intro M pc ls st g σ τ Q h Q' hQ X hX
  refine hX _ _ _ _ _ _ _ _ (x_one_mono hQ (fun M pc ls st g σ τ Q Q' hq h => h Q' hq X hX) h)
theorem Ev.fold {M : xM} {pc : Nat} {ls st : List Value} {g : xG} {σ : xS} {τ : xL} {Q : xQ} (h : x_one Ev M pc ls st g σ τ Q) : Ev M pc ls st g σ τ Q := by
  intro X hX
  exact hX _ _ _ _ _ _ _ _ (x_one_mono (fun _ _ _ _ h => h) (fun M pc ls st g σ τ Q Q' hq h => h.mono hq X hX) h)
theorem x_go_ev : ∀ (n : Nat) (cs : List Nat) (M : xM) (pc : Nat) (ls st : List Value) (g : xG) (σ : xS) (τ : xL) (Q : xQ), x_go n cs M pc ls st g σ τ Q → Ev M pc ls st g σ τ Q
  | 0, _, _, _, _, _, _, _, _, _, h => h
  | n + 1, cs, M, pc, ls, st, g, σ, τ, Q, h => by
    unfold x_go at h
    cases hc : cs.elem pc
    · rw [hc] at h
      apply Ev.fold
      unfold x_one
      simp only [cond_false] at h
      generalize x_fnd M.2.2.2.2.2.2.1 pc = o at h ⊢
      rcases o with _ | ⟨i, nx, a, b, v⟩
      · exact h
      · exact x_stp_mono (K := fun pc ls st g σ τ => x_go n cs M pc ls st g σ τ Q) (C := fun M' as g σ τ Q' => Ev M' 0 (x_loc as M'.2.2.1) [] g σ τ Q') (F := Q) (fun _ _ _ _ _ _ h => x_go_ev n cs _ _ _ _ _ _ _ _ h) (fun _ _ _ _ h => h) (fun _ _ _ _ _ _ _ hq h => h.mono hq) h
    · rw [hc] at h
      exact h
/-- a walk: the first step is taken, then steps up to one of cs -/
def x_first (n : Nat) (cs : List Nat) (M : xM) (pc : Nat) (ls st : List Value) (g : xG) (σ : xS) (τ : xL) (Q : xQ) : Prop :=
  match x_fnd M.2.2.2.2.2.2.1 pc with
  | none => False
  | some (i, nx, a, b, v) => x_stp M i nx a b v ls st g σ τ (fun pc ls st g σ τ => x_go n cs M pc ls st g σ τ Q) Q (fun M' as g σ τ Q' => Ev M' 0 (x_loc as M'.2.2.1) [] g σ τ Q')
theorem ev_go (n : Nat) (cs : List Nat) {M : xM} {pc : Nat} {ls st : List Value} {g : xG} {σ : xS} {τ : xL} {Q : xQ} (h : x_first n cs M pc ls st g σ τ Q) : Ev M pc ls st g σ τ Q := by
  apply Ev.fold
  unfold x_one
  unfold x_first at h
  generalize x_fnd M.2.2.2.2.2.2.1 pc = o at h ⊢
  rcases o with _ | ⟨i, nx, a, b, v⟩
  · exact h
  · exact x_stp_mono (K := fun pc ls st g σ τ => x_go n cs M pc ls st g σ τ Q) (C := fun M' as g σ τ Q' => Ev M' 0 (x_loc as M'.2.2.1) [] g σ τ Q') (F := Q) (fun _ _ _ _ _ _ h => x_go_ev n cs _ _ _ _ _ _ _ _ h) (fun _ _ _ _ h => h) (fun _ _ _ _ _ _ _ hq h => h.mono hq) h
