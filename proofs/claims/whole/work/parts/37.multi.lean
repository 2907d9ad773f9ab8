set_option maxHeartbeats 1000000 in
theorem xs_multi (l : Launch) {M : xM} {pc len a b : Nat} {v : Value} {ls st : List Value} {g : xG} {σ : xS} {τ : xL} {Q : xQ} {k2 k3 : Nat} {raw : Instr} (hd : decode (x_by M.1) pc = .ok (raw, len)) (hi : x_oki (M.1, M.2.1, M.2.2.1, M.2.2.2.2.2.1) pc raw len (.multianewarray k2 k3) a b v = true)
    (h : x_stp M (.multianewarray k2 k3) (pc + len) a b v ls st g σ τ (fun pc ls st g σ τ => x_snd l M pc ls st g σ τ Q) Q (fun M' as g σ τ Q' => x_snd l M' 0 (x_loc as M'.2.2.1) [] g σ τ Q')) : x_snd l M pc ls st g σ τ Q := by
  intro hok p e R s m args below meth c fc D kc A Z n0 ad0 hK hex hA hscr hret ad H locs arr hW hS hag hl
  have go : ∀ {pc' : Nat} {ls' st' : List Value} {g' : xG} {σ' : xS} {τ' : xL}, x_snd l M pc' ls' st' g' σ' τ' Q → ∀ (ad' : Nat → Nat) (H' : Heap) (locs' : List Loc) (arr' : Array Slot), x_W kc D A ad' g' σ' τ' H' → va_S A s.heap H' locs' → x_ag M n0 ad0 ad' g' → x_lr ad' ls' arr' M.2.2.1 → W p l e R s m args below meth c H' locs' g'.2.2.1 g'.2.2.2 Z (F0 m pc' arr' (st'.map (x_cv ad'))) := fun k ad' H' locs' arr' w1 w2 w3 w4 => k hok p e R s m args below meth c fc D kc A Z n0 ad0 hK hex hA hscr hret ad' H' locs' arr' w1 w2 w3 w4
  obtain ⟨hx, hb, hml, hown, hts, hini, hr1, hr2, hr3, hr4⟩ := id fc
  rcases st with _ | ⟨(kk | _ | _ | _ | _ | _ | _), st⟩ <;> first | exact False.elim h | skip
  rcases st with _ | ⟨(n | _ | _ | _ | _ | _ | _), st⟩ <;> first | exact False.elim h | skip
  obtain ⟨N, P, rfl, rfl, hN, hP, h⟩ := h
  obtain ⟨hc, h⟩ := x_bif_t h
  obtain ⟨hc1, hc⟩ := x_ok3 hc
  obtain ⟨hc2, hrf⟩ := x_ok3 hc
  have hc1 := Nat.le_of_ble_eq_true hc1
  have hc2 := Nat.le_of_ble_eq_true hc2
  simp only [x_oki] at hi
  split at hi
  · obtain ⟨i1, i2⟩ := x_ok3 hi
    obtain ⟨i3, i4⟩ := x_ok3 i2
    have e1 := Nat.eq_of_beq_eq_true i1
    have e2 := Nat.eq_of_beq_eq_true i3
    subst e1
    subst e2
    refine x_mna2 hx hb hown (hts _ (x_has_in i4 rfl)) hex.2.2 (hts _ (x_tbl_in (w := .arrayClass .int) (by decide +kernel) rfl)) hN hP (by omega) (by omega) hS.1 hd (fun H1 cA comp f1 f2 hz hold hout hin => ?_)
    have ek18 : cA = kc 18 := by
      have h1 := (hK.2 2 (kc 18, .array .int) rfl).2
      have e : s.vm.findClass "[[I" = some (kc 18) := h1
      exact Option.some.inj (f1.symm.trans e)
    have ek16 : comp = kc 16 := by
      have h1 := (hK.2 0 (kc 16, .int) rfl).2
      have e : s.vm.findClass "[I" = some (kc 16) := h1
      exact Option.some.inj (f2.symm.trans e)
    subst ek18
    subst ek16
    generalize hn : g.1.length = n at *
    obtain ⟨ad', had'⟩ : ∃ ad' : Nat → Nat, ad' = fun k => if k < n then ad k else H.size + (k - n) := ⟨_, rfl⟩
    have a1 : ∀ k, k < n → ad' k = ad k := fun k hk => by rw [had']; exact if_pos hk
    have a2 : ∀ j, ad' (n + j) = H.size + j := fun j => by rw [had']; show (if n + j < n then _ else _) = _; rw [if_neg (by omega)]; omega
    have ew := x_wd_app (kc := kc) (ad := ad) (ad' := ad') (sh := g.1) (l := (18, N) :: List.replicate N (16, P)) (ρ := g.2.1) (ρ' := x_wrr g.2.1 n N) (σ := σ) (σ' := x_zs 0 σ n) (τ := τ) (τ' := x_zs 0 τ n) (by rw [hn]; exact a1) hW.2.2 (fun k hk => by
      funext j
      have e : Nat.beq k n = false := by
        cases hb2 : Nat.beq k n
        · rfl
        · have := Nat.eq_of_beq_eq_true hb2
          omega
      simp [x_wrr, e]) (fun k hk => x_zs_lt (by omega)) (fun k hk => x_zs_lt (by omega))
    rw [hn] at ew
    have hout' : H1[ad' (n + 0)]? = some (vp_cell (kc 18) (N, .inr (.inr (.inr (.inr (fun j => (x_wrr g.2.1 n N n j).map ad')))))) := by
      rw [a2 0, Nat.add_zero, hout, vp_cell_q]
      congr 2
      funext j
      have e : (x_wrr g.2.1 n N n j).map ad' = if j < N then some (H.size + 1 + j) else none := by
        by_cases hj : j < N
        · have e1 : Nat.blt j N = true := Nat.ble_eq_true_of_le hj
          simp only [x_wrr, Nat.beq_refl, cond_true, e1, Option.map_some, if_pos hj]
          rw [show n + 1 + j = n + (1 + j) by omega, a2]
          congr 1
          omega
        · have e1 : Nat.blt j N = false := by
            cases hb2 : Nat.blt j N
            · rfl
            · exact absurd (Nat.le_of_ble_eq_true hb2) hj
          simp only [x_wrr, Nat.beq_refl, cond_true, e1, cond_false, Option.map_none, if_neg hj]
      rw [e]
    have hin' : ∀ j, j < N → H1[ad' (n + (j + 1))]? = some (vp_cell (kc 16) (P, .inl (x_zs 0 σ n (n + (j + 1))))) := by
      intro j hj
      rw [a2, show H.size + (j + 1) = H.size + 1 + j by omega, hin j hj, vp_cell_i, x_zs_ge (by omega)]
    have hlt : ∀ (k : Nat) (q : Nat × va_E), (x_wd kc ad g.1 g.2.1 σ τ)[k]? = some q → q.1 < H.size := fun k q hk => (hW.1 k q hk).lt
    have htail : ∀ (k : Nat) (q : Nat × va_E), ((List.range ((18, N) :: List.replicate N (16, P)).length).map (fun j => (ad' (n + j), x_cell kc ad' (x_wrr g.2.1 n N) (x_zs 0 σ n) (x_zs 0 τ n) (n + j) ((x_nth ((18, N) :: List.replicate N (16, P)) j).getD (0, 0)))))[k]? = some q → q.1 = H.size + k ∧ va_at D x_cl q H1 := by
      intro k q hk
      have hkl : k < N + 1 := by
        have := (List.getElem?_eq_some_iff.mp hk).1
        simpa using this
      rw [List.getElem?_map, List.getElem?_range (by simpa using hkl)] at hk
      simp only [Option.map_some, Option.some.injEq] at hk
      subst hk
      refine ⟨a2 k, ?_⟩
      cases k with
      | zero => exact hout'
      | succ j =>
        have hj : j < N := by omega
        have e : x_nth ((18, N) :: List.replicate N (16, P)) (j + 1) = some (16, P) := by
          rw [x_nth_get]
          simp [hj]
        rw [e]
        exact hin' j hj
    have hP1 : va_P D x_cl (x_wd kc ad' (g.1 ++ (18, N) :: List.replicate N (16, P)) (x_wrr g.2.1 n N) (x_zs 0 σ n) (x_zs 0 τ n)) H1 := by
      rw [ew]
      exact (hW.1.kept (fun k q hk => hold q.1 (hlt k q hk))).app (fun k q hk => (htail k q hk).2)
    have hD1 : va_D A (x_wd kc ad' (g.1 ++ (18, N) :: List.replicate N (16, P)) (x_wrr g.2.1 n N) (x_zs 0 σ n) (x_zs 0 τ n)) := by
      rw [ew]
      refine hW.2.1.app ⟨fun i j x y hi2 hj2 hxy => ?_, fun k q hk => ?_⟩ (fun i j x y hi2 hj2 hxy => ?_)
      · have := (htail i x hi2).1
        have := (htail j y hj2).1
        omega
      · exact hA _ (by rw [(htail k q hk).1]; exact Nat.le_trans hS.1 (by omega))
      · have := hlt i x hi2
        have := (htail j y hj2).1
        omega
    have hS1 : va_S A s.heap H1 locs := ⟨Nat.le_trans hS.1 (by omega), fun q h1 h2 => by rw [hold q (Nat.lt_of_lt_of_le h1 hS.1)]; exact hS.2.1 q h1 h2, hS.2.2⟩
    have e2 : x_as ad' 0 ls = x_as ad 0 ls := x_as_ag a1 _ _ (x_refs_app _ _ hrf).1
    have e3 : st.map (x_cv ad') = st.map (x_cv ad) := x_cv_ag a1 _ (x_refs_app _ _ hrf).2
    refine W.eq (g2 := F0 m (pc + 4) arr ((Value.ref n :: st).map (x_cv ad'))) ?_ (go h ad' H1 locs arr ⟨hP1, hD1, fun q' j r hr => ?_⟩ hS1 ⟨fun k hk => ?_, ?_, fun hz => ?_, by show _ + 1 + N ≤ _; omega, by show _ + N + N * P ≤ _; omega⟩ ?_)
    · rw [List.map_cons, e3]
      show _ = F0 m _ arr (.ref (ad' n) :: _)
      have := a2 0
      simp only [Nat.add_zero] at this
      rw [this]
    · simp only [List.length_append, List.length_cons, List.length_replicate, hn]
      by_cases hq : q' = n
      · subst hq
        simp only [x_wrr, Nat.beq_refl, cond_true] at hr
        cases hb2 : Nat.blt j N
        · rw [hb2] at hr
          cases hr
        · rw [hb2] at hr
          have := Nat.le_of_ble_eq_true hb2
          cases hr
          omega
      · have e : Nat.beq q' n = false := by
          cases hb2 : Nat.beq q' n
          · rfl
          · exact absurd (Nat.eq_of_beq_eq_true hb2) hq
        simp only [x_wrr, e, cond_false] at hr
        have := hW.2.2 _ _ _ hr
        omega
    · rw [a1 k (Nat.lt_of_lt_of_le hk (by rw [← hn]; exact hag.2.1))]
      exact hag.1 k hk
    · simp only [List.length_append]
      exact Nat.le_trans hag.2.1 (by omega)
    · omega
    · unfold x_lr
      rw [e2]
      exact hl
  · cases hi
