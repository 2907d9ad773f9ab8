set_option maxHeartbeats 4000000 in
/-- every step of the small machine is a walk of the machine -/
theorem x_step_snd (l : Launch) (M : xM) (pc : Nat) (ls st : List Value) (g : xG) (σ : xS) (τ : xL) (Q : xQ) (h : x_one (x_snd l) M pc ls st g σ τ Q) : x_snd l M pc ls st g σ τ Q := by
  intro hok
  revert hok
  by_cases hok : x_okM M = true
  · intro hok2
    unfold x_one at h
    cases hf : x_fnd M.2.2.2.2.2.2.1 pc with
    | none => rw [hf] at h; exact h.elim
    | some row =>
      obtain ⟨i, nx, a, b, v⟩ := row
      rw [hf] at h
      obtain ⟨raw, len, hd, hnx, hi⟩ := x_okM_at hok hf
      subst hnx
      refine (?_ : x_snd l M pc ls st g σ τ Q) hok2
      cases i
      all_goals first
        | exact False.elim h
        | exact xs_iconst l hd hi h
        | exact xs_iload l hd hi h
        | exact xs_lload l hd hi h
        | exact xs_aload l hd hi h
        | exact xs_istore l hd hi h
        | exact xs_lstore l hd hi h
        | exact xs_astore l hd hi h
        | exact xs_iinc l hd hi h
        | exact xs_iadd l hd hi h
        | exact xs_isub l hd hi h
        | exact xs_imul l hd hi h
        | exact xs_iand l hd hi h
        | exact xs_ior l hd hi h
        | exact xs_ixor l hd hi h
        | exact xs_ishl l hd hi h
        | exact xs_ishr l hd hi h
        | exact xs_iushr l hd hi h
        | exact xs_idiv l hd hi h
        | exact xs_irem l hd hi h
        | exact xs_ineg l hd hi h
        | exact xs_i2l l hd hi h
        | exact xs_i2b l hd hi h
        | exact xs_l2i l hd hi h
        | exact xs_ladd l hd hi h
        | exact xs_lmul l hd hi h
        | exact xs_ldiv l hd hi h
        | exact xs_lrem l hd hi h
        | exact xs_lcmp l hd hi h
        | exact xs_dup l hd hi h
        | exact xs_dup2 l hd hi h
        | exact xs_pop l hd hi h
        | exact xs_ifCond l hd hi h
        | exact xs_if_icmp l hd hi h
        | exact xs_goto l hd hi h
        | exact xs_getfield l hd hi h
        | exact xs_putfield l hd hi h
        | exact xs_iaload l hd hi h
        | exact xs_iastore l hd hi h
        | exact xs_baload l hd hi h
        | exact xs_bastore l hd hi h
        | exact xs_aaload l hd hi h
        | exact xs_aastore l hd hi h
        | exact xs_arraylength l hd hi h
        | exact xs_dadd l hd hi h
        | exact xs_dsub l hd hi h
        | exact xs_dneg l hd hi h
        | exact xs_new l hd hi h
        | exact xs_newarray l hd hi h
        | exact xs_anewarray l hd hi h
        | exact xs_ireturn l hd hi h
        | exact xs_lreturn l hd hi h
        | exact xs_switch l hd hi h
        | exact xs_objinit l hd hi h
        | exact xs_copy l hd hi h
        | exact xs_static l hd hi h
        | exact xs_virtual l hd hi h
        | exact xs_special l hd hi h
        | exact xs_multi l hd hi h
        | exact xs_return l hd hi h
  · exact fun q => absurd q hok
/-- SOUNDNESS -/
theorem x_sound (l : Launch) {M : xM} {pc : Nat} {ls st : List Value} {g : xG} {σ : xS} {τ : xL} {Q : xQ} (h : Ev M pc ls st g σ τ Q) : x_snd l M pc ls st g σ τ Q := h (x_snd l) (fun M pc ls st g σ τ Q h => x_step_snd l M pc ls st g σ τ Q h)
