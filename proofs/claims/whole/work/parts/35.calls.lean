theorem x_room_all {M M' : xM} {nc ns : Nat} (h : x_room M M' nc ns = true) : M'.2.2.2.2.2.1.1 + 1 ≤ M.2.2.2.2.2.1.1 ∧ 8 + (M'.2.2.1 + 11) + M'.2.2.2.2.2.1.2.1 ≤ M.2.2.2.2.2.1.2.1 ∧ nc + M'.2.2.2.2.2.1.2.2.1 ≤ M.2.2.2.2.2.1.2.2.1 ∧ ns + M'.2.2.2.2.2.1.2.2.2 ≤ M.2.2.2.2.2.1.2.2.2 ∧ M'.2.2.1 < 1000 := by
  unfold x_room at h
  obtain ⟨h1, h⟩ := x_ok3 h
  obtain ⟨h2, h⟩ := x_ok3 h
  obtain ⟨h3, h⟩ := x_ok3 h
  obtain ⟨h4, h5⟩ := x_ok3 h
  exact ⟨Nat.le_of_ble_eq_true h1, Nat.le_of_ble_eq_true h2, Nat.le_of_ble_eq_true h3, Nat.le_of_ble_eq_true h4, Nat.le_of_ble_eq_true h5⟩
theorem x_par {y : MethodName} {n k : Nat} {f : Nat → Nat} (h : (parseMethodDescriptor y.desc).map (fun d => f d.parameters.length) = some k) (hf : ∀ x, f x = k → n = x) : ∀ sig, parseMethodDescriptor y.desc = some sig → n = sig.parameters.length := by
  intro sig hs
  rw [hs] at h
  exact hf _ (Option.some.inj h)
/-- what a call's preparation gives -/
def x_Pc (kc : Nat → ClassId) (D : va_G) (ad : Nat → Nat) (g : xG) (σ : xS) (τ : xL) (sz : Nat) (U : State) : Prop := U.heap.size = sz ∧ x_W kc D (fun _ => True) ad g σ τ U.heap ∧ va_K D x_cl (x_tys kc) U ∧ x_ex U
theorem x_blind {kc : Nat → ClassId} {D : va_G} {ad : Nat → Nat} {g : xG} {σ : xS} {τ : xL} {sz : Nat} {vs : List Value} : FrameBlind (va_Pc vs (x_Pc kc D ad g σ τ sz)) := by
  intro a U fr mk q
  obtain ⟨q0, q1, q2, q3, q4⟩ := q
  exact ⟨q0, q1, q2, va_K.moved (u := U) (U := U.calling fr mk a) (Vm.Alike.refl U.vm) q3, x_ex_same (s := U) (U := U.calling fr mk a) rfl q4⟩
theorem x_prep {s : State} {H : Heap} {kc : Nat → ClassId} {D : va_G} {A : Nat → Prop} {ad : Nat → Nat} {g : xG} {σ : xS} {τ : xL} {vs : List Value} (hK : va_K D x_cl (x_tys kc) s) (hex : x_ex s) (hW : x_W kc D A ad g σ τ H) : ∀ U : State, U.heap = H → s.WarmedH U.vm → va_Pc vs (x_Pc kc D ad g σ τ H.size) vs.toArray U := fun U hU hWU =>
  ⟨rfl, by rw [hU], by rw [hU]; exact ⟨hW.1, hW.2.1.weaken (fun _ _ _ _ => trivial), hW.2.2⟩, va_K.moved hWU.alike hK, x_ex_moved hWU hex⟩
set_option maxHeartbeats 1000000 in
theorem xs_static (l : Launch) {M : xM} {pc len a b : Nat} {v : Value} {ls st : List Value} {g : xG} {σ : xS} {τ : xL} {Q : xQ} {k2 : Nat} {raw : Instr} (hd : decode (x_by M.1) pc = .ok (raw, len)) (hi : x_oki (M.1, M.2.1, M.2.2.1, M.2.2.2.2.2.1) pc raw len (.invokestatic k2) a b v = true)
    (h : x_stp M (.invokestatic k2) (pc + len) a b v ls st g σ τ (fun pc ls st g σ τ => x_snd l M pc ls st g σ τ Q) Q (fun M' as g σ τ Q' => x_snd l M' 0 (x_loc as M'.2.2.1) [] g σ τ Q')) : x_snd l M pc ls st g σ τ Q := by
  intro hok p e R s m args below meth c fc D kc A Z n0 ad0 hK hex hA hscr hret ad H locs arr hW hS hag hl
  have go : ∀ {pc' : Nat} {ls' st' : List Value} {g' : xG} {σ' : xS} {τ' : xL}, x_snd l M pc' ls' st' g' σ' τ' Q → ∀ (ad' : Nat → Nat) (H' : Heap) (locs' : List Loc) (arr' : Array Slot), x_W kc D A ad' g' σ' τ' H' → va_S A s.heap H' locs' → x_ag M n0 ad0 ad' g' → x_lr ad' ls' arr' M.2.2.1 → W p l e R s m args below meth c H' locs' g'.2.2.1 g'.2.2.2 Z (F0 m pc' arr' (st'.map (x_cv ad'))) := fun k ad' H' locs' arr' w1 w2 w3 w4 => k hok p e R s m args below meth c fc D kc A Z n0 ad0 hK hex hA hscr hret ad' H' locs' arr' w1 w2 w3 w4
  obtain ⟨hx, hb, hml, hown, hts, hini, hr1, hr2, hr3, hr4⟩ := id fc
  unfold x_stp x_call at h
  dsimp only at h
  cases hM : x_nth x_tab a with
  | none => rw [hM] at h; exact h.elim
  | some M' =>
    rw [hM] at h
    dsimp only at h
    obtain ⟨hrm, h1⟩ := x_bif_t h
    clear h
    obtain ⟨r1, r2, r3, r4, r5⟩ := x_room_all hrm
    obtain ⟨bs, rest, rfl, hbl, h2⟩ := x_pop_iff _ _ _ h1
    clear h1
    rw [List.append_nil] at h2
    obtain ⟨hc, hC⟩ := x_bif_t h2
    clear h2
    obtain ⟨hcat, hc2⟩ := x_ok3 hc
    obtain ⟨hrecv, hc3⟩ := x_ok3 hc2
    obtain ⟨hwd0, hrf⟩ := x_ok3 hc3
    clear hc hc2 hc3
    have hwd := Nat.le_of_ble_eq_true hwd0
    clear hwd0
    have hcs := x_cat_sum ad rest 0 hcat
    obtain ⟨hok', hcok⟩ := x_cal hM
    obtain ⟨c1, c2, c3, c4, c5, c6, c7, c8, c9⟩ := x_cok_all hcok
    generalize has : bs.reverse = as at hC hrecv hwd
    have hbs : bs = as.reverse := by rw [← has, List.reverse_reverse]
    subst hbs
    have hMet := x_met l hM hC hwd r5 D kc ad H.size
    have hFc := va_free (wc := x_wd kc ad g.1 g.2.1 σ τ) hW.2.1 hS hA (List.range g.1.length) (by
      apply List.ext_getElem?
      intro k
      rw [List.getElem?_map, List.getElem?_map]
      by_cases hk : k < g.1.length
      · rw [List.getElem?_range hk, List.getElem?_eq_getElem (by rw [x_wd_len]; exact hk)]
        simp [List.getElem?_eq_getElem (show k < (x_wd kc ad g.1 g.2.1 σ τ).length by rw [x_wd_len]; exact hk)]
      · rw [List.getElem?_eq_none (by simpa using hk), List.getElem?_eq_none (by rw [x_wd_len]; omega)]
        rfl)
    have hag' : ∀ (u : xU), (∀ k, k < g.1.length → u.2.2.2 k = ad k) → (M'.2.2.2.2.2.1.2.2.1 = 0 → u.2.2.2 = ad) → rest.map (x_cv u.2.2.2) = rest.map (x_cv ad) ∧ x_as u.2.2.2 0 ls = x_as ad 0 ls := by
      intro u h1 h2
      rcases Bool.or_eq_true_iff.mp hrf with hz | hz
      · rw [h2 (Nat.eq_of_beq_eq_true hz)]
        exact ⟨rfl, rfl⟩
      · obtain ⟨z1, z2⟩ := x_refs_app _ _ hz
        exact ⟨x_cv_ag h1 _ z2, x_as_ag h1 _ _ z1⟩
    have fin : ∀ (pcc : Nat), pcc = pc + len → va_Run p l e R s m args below meth c H locs g.2.2.1 g.2.2.2 M'.2.2.2.2.2.1.2.2.1 M'.2.2.2.2.2.1.2.2.2 (F0 m pc arr ((as.reverse ++ rest).map (x_cv ad))) (rest.map (x_cv ad)) (x_Qc (x_post fun r g' σ' τ' => x_snd l M (pc + len) ls (x_push r rest) (g'.1, g'.2.1, g.2.2.1 + M'.2.2.2.2.2.1.2.2.1, g.2.2.2 + M'.2.2.2.2.2.1.2.2.2) σ' τ' Q) (x_B M' kc D ad g.1.length (va_A (x_wd kc ad g.1 g.2.1 σ τ) H.size)) (va_A (x_wd kc ad g.1 g.2.1 σ τ) H.size) (as.map (x_cv ad)).toArray) (va_A (x_wd kc ad g.1 g.2.1 σ τ) H.size) → len = 3 → W p l e R s m args below meth c H locs g.2.2.1 g.2.2.2 Z (F0 m pc arr ((as.reverse ++ rest).map (x_cv ad))) := by
      intro pcc hpcc run hlen3
      refine x_callW run hS (fun q _ h => hFc q h) hFc (fun v u t H1 locs1 ht hvm hp hB hS1 => ?_)
      obtain ⟨hp1, hp2⟩ := hp
      obtain ⟨b1, b2, b3, b4⟩ := hB
      rw [ht] at b1
      obtain ⟨e1, e2⟩ := hag' u b2 b4
      have hgo := go hp1 u.2.2.2 H1 locs1 arr ⟨b1.1, b1.2.1.weaken (fun k q _ h => hFc q.1 h), b1.2.2⟩ hS1 ⟨fun k hk => by rw [b2 k (Nat.lt_of_lt_of_le hk hag.2.1)]; exact hag.1 k hk, Nat.le_trans hag.2.1 b3, fun hz => by rw [b4 (by omega)]; exact hag.2.2.1 hz, r3, r4⟩ (by unfold x_lr; rw [e2]; exact hl)
      subst hlen3
      refine W.eq (g2 := F0 m (pc + 3) arr ((x_push v rest).map (x_cv u.2.2.2))) ?_ hgo
      cases v with
      | none => rw [show x_push none rest = rest from rfl, e1]; rfl
      | some x =>
        rw [show x_push (some x) rest = x :: rest from rfl, List.map_cons, e1, hp2 u.2.2.2 x rfl]
        rfl
    simp only [x_oki] at hi
    split at hi
    · rename_i idx
      obtain ⟨i1, i2⟩ := x_ok3 hi
      obtain ⟨i3, i4⟩ := x_ok3 i2
      have e1 := Nat.eq_of_beq_eq_true i1
      obtain ⟨st1, st2⟩ := c7 (Nat.eq_of_beq_eq_true i3)
      have hstack : (as.reverse ++ rest).map (x_cv ad) = (as.map (x_cv ad)).reverse ++ rest.map (x_cv ad) := by
        rw [List.map_append, List.map_reverse]
      have hlen : as.length = M'.2.2.2.1 := by rw [← hbl, List.length_reverse]
      have hpar := x_par (n := as.length) (f := fun x => x) st2 (fun x hx => by rw [hlen]; exact hx.symm)
      have hW8 : 2 * 0 + ((rest.map (x_cv ad)).map fun v => v.category).sum ≤ 8 := by omega
      subst e1
      rcases Bool.or_eq_true_iff.mp i4 with i5 | i5
      · exact fin _ rfl (va_runS (own := x_cn M.2.1) ⟨hx, hb, hml, hown, hts⟩ hMet ⟨⟨rfl, rfl, by show _ + 1 ≤ _; exact Nat.le_trans r1 hr1, by show _ ≤ _; exact Nat.le_trans r2 hr2, pay_in hts (x_ws_good hcok), List.mem_cons_self, hts _ c2, hts _ c3, c6, hpar, hts _ (x_has_in i5 rfl)⟩, hts _ st1⟩ ⟨x_blind, x_prep hK hex hW⟩ rfl (by simp) hl.1 hstack hW8 hd ⟨by omega, by omega⟩) rfl
      · exact fin _ rfl (va_runSN (own := x_cn M.2.1) ⟨hx, hb, hml, hown, hts⟩ hMet ⟨⟨⟨rfl, rfl, by show _ + 1 ≤ _; exact Nat.le_trans r1 hr1, by show _ ≤ _; exact Nat.le_trans r2 hr2, pay_in hts (x_ws_good hcok), List.mem_cons_self⟩, hts _ c2, hts _ c3, c6, hpar, va_Nw.use rfl (hex.1 _ (x_has_lw i5) rfl)⟩, hts _ st1, trivial⟩ ⟨x_blind, x_prep hK hex hW⟩ rfl (by simp) hl.1 hstack hW8 hd ⟨by omega, by omega⟩) rfl
    · cases hi
set_option maxHeartbeats 1000000 in
theorem xs_virtual (l : Launch) {M : xM} {pc len a b : Nat} {v : Value} {ls st : List Value} {g : xG} {σ : xS} {τ : xL} {Q : xQ} {k2 : Nat} {raw : Instr} (hd : decode (x_by M.1) pc = .ok (raw, len)) (hi : x_oki (M.1, M.2.1, M.2.2.1, M.2.2.2.2.2.1) pc raw len (.invokevirtual k2) a b v = true)
    (h : x_stp M (.invokevirtual k2) (pc + len) a b v ls st g σ τ (fun pc ls st g σ τ => x_snd l M pc ls st g σ τ Q) Q (fun M' as g σ τ Q' => x_snd l M' 0 (x_loc as M'.2.2.1) [] g σ τ Q')) : x_snd l M pc ls st g σ τ Q := by
  intro hok p e R s m args below meth c fc D kc A Z n0 ad0 hK hex hA hscr hret ad H locs arr hW hS hag hl
  have go : ∀ {pc' : Nat} {ls' st' : List Value} {g' : xG} {σ' : xS} {τ' : xL}, x_snd l M pc' ls' st' g' σ' τ' Q → ∀ (ad' : Nat → Nat) (H' : Heap) (locs' : List Loc) (arr' : Array Slot), x_W kc D A ad' g' σ' τ' H' → va_S A s.heap H' locs' → x_ag M n0 ad0 ad' g' → x_lr ad' ls' arr' M.2.2.1 → W p l e R s m args below meth c H' locs' g'.2.2.1 g'.2.2.2 Z (F0 m pc' arr' (st'.map (x_cv ad'))) := fun k ad' H' locs' arr' w1 w2 w3 w4 => k hok p e R s m args below meth c fc D kc A Z n0 ad0 hK hex hA hscr hret ad' H' locs' arr' w1 w2 w3 w4
  obtain ⟨hx, hb, hml, hown, hts, hini, hr1, hr2, hr3, hr4⟩ := id fc
  unfold x_stp x_call at h
  dsimp only at h
  cases hM : x_nth x_tab a with
  | none => rw [hM] at h; exact h.elim
  | some M' =>
    rw [hM] at h
    dsimp only at h
    obtain ⟨hrm, h1⟩ := x_bif_t h
    clear h
    obtain ⟨r1, r2, r3, r4, r5⟩ := x_room_all hrm
    obtain ⟨bs, rest, rfl, hbl, h2⟩ := x_pop_iff _ _ _ h1
    clear h1
    rw [List.append_nil] at h2
    obtain ⟨hc, hC⟩ := x_bif_t h2
    clear h2
    obtain ⟨hcat, hc2⟩ := x_ok3 hc
    obtain ⟨hrecv, hc3⟩ := x_ok3 hc2
    obtain ⟨hwd0, hrf⟩ := x_ok3 hc3
    clear hc hc2 hc3
    have hwd := Nat.le_of_ble_eq_true hwd0
    clear hwd0
    have hcs := x_cat_sum ad rest 0 hcat
    obtain ⟨hok', hcok⟩ := x_cal hM
    obtain ⟨c1, c2, c3, c4, c5, c6, c7, c8, c9⟩ := x_cok_all hcok
    generalize has : bs.reverse = as at hC hrecv hwd
    have hbs : bs = as.reverse := by rw [← has, List.reverse_reverse]
    subst hbs
    have hMet := x_met l hM hC hwd r5 D kc ad H.size
    have hFc := va_free (wc := x_wd kc ad g.1 g.2.1 σ τ) hW.2.1 hS hA (List.range g.1.length) (by
      apply List.ext_getElem?
      intro k
      rw [List.getElem?_map, List.getElem?_map]
      by_cases hk : k < g.1.length
      · rw [List.getElem?_range hk, List.getElem?_eq_getElem (by rw [x_wd_len]; exact hk)]
        simp [List.getElem?_eq_getElem (show k < (x_wd kc ad g.1 g.2.1 σ τ).length by rw [x_wd_len]; exact hk)]
      · rw [List.getElem?_eq_none (by simpa using hk), List.getElem?_eq_none (by rw [x_wd_len]; omega)]
        rfl)
    have hag' : ∀ (u : xU), (∀ k, k < g.1.length → u.2.2.2 k = ad k) → (M'.2.2.2.2.2.1.2.2.1 = 0 → u.2.2.2 = ad) → rest.map (x_cv u.2.2.2) = rest.map (x_cv ad) ∧ x_as u.2.2.2 0 ls = x_as ad 0 ls := by
      intro u h1 h2
      rcases Bool.or_eq_true_iff.mp hrf with hz | hz
      · rw [h2 (Nat.eq_of_beq_eq_true hz)]
        exact ⟨rfl, rfl⟩
      · obtain ⟨z1, z2⟩ := x_refs_app _ _ hz
        exact ⟨x_cv_ag h1 _ z2, x_as_ag h1 _ _ z1⟩
    have fin : ∀ (pcc : Nat), pcc = pc + len → va_Run p l e R s m args below meth c H locs g.2.2.1 g.2.2.2 M'.2.2.2.2.2.1.2.2.1 M'.2.2.2.2.2.1.2.2.2 (F0 m pc arr ((as.reverse ++ rest).map (x_cv ad))) (rest.map (x_cv ad)) (x_Qc (x_post fun r g' σ' τ' => x_snd l M (pc + len) ls (x_push r rest) (g'.1, g'.2.1, g.2.2.1 + M'.2.2.2.2.2.1.2.2.1, g.2.2.2 + M'.2.2.2.2.2.1.2.2.2) σ' τ' Q) (x_B M' kc D ad g.1.length (va_A (x_wd kc ad g.1 g.2.1 σ τ) H.size)) (va_A (x_wd kc ad g.1 g.2.1 σ τ) H.size) (as.map (x_cv ad)).toArray) (va_A (x_wd kc ad g.1 g.2.1 σ τ) H.size) → len = 3 → W p l e R s m args below meth c H locs g.2.2.1 g.2.2.2 Z (F0 m pc arr ((as.reverse ++ rest).map (x_cv ad))) := by
      intro pcc hpcc run hlen3
      refine x_callW run hS (fun q _ h => hFc q h) hFc (fun v u t H1 locs1 ht hvm hp hB hS1 => ?_)
      obtain ⟨hp1, hp2⟩ := hp
      obtain ⟨b1, b2, b3, b4⟩ := hB
      rw [ht] at b1
      obtain ⟨e1, e2⟩ := hag' u b2 b4
      have hgo := go hp1 u.2.2.2 H1 locs1 arr ⟨b1.1, b1.2.1.weaken (fun k q _ h => hFc q.1 h), b1.2.2⟩ hS1 ⟨fun k hk => by rw [b2 k (Nat.lt_of_lt_of_le hk hag.2.1)]; exact hag.1 k hk, Nat.le_trans hag.2.1 b3, fun hz => by rw [b4 (by omega)]; exact hag.2.2.1 hz, r3, r4⟩ (by unfold x_lr; rw [e2]; exact hl)
      subst hlen3
      refine W.eq (g2 := F0 m (pc + 3) arr ((x_push v rest).map (x_cv u.2.2.2))) ?_ hgo
      cases v with
      | none => rw [show x_push none rest = rest from rfl, e1]; rfl
      | some x =>
        rw [show x_push (some x) rest = x :: rest from rfl, List.map_cons, e1, hp2 u.2.2.2 x rfl]
        rfl
    simp only [x_oki] at hi
    split at hi
    · rename_i idx
      obtain ⟨i1, i2⟩ := x_ok3 hi
      obtain ⟨i3, i5⟩ := x_ok3 i2
      have e1 := Nat.eq_of_beq_eq_true i1
      obtain ⟨st1, st2, st3, st4⟩ := c8 (Nat.eq_of_beq_eq_true i3)
      have hrec : ∃ q as', as = .ref q :: as' ∧ ∃ n, x_nth g.1 q = some (M'.2.1, n) := by
        simp only [Bool.not_true, Bool.false_or] at hrecv
        cases as with
        | nil => exact absurd hrecv (by simp [x_recv])
        | cons v as' =>
          cases v with
          | ref q =>
            unfold x_recv at hrecv
            cases hq : x_nth g.1 q with
            | none => simp [hq] at hrecv
            | some w =>
              obtain ⟨kd, n⟩ := w
              simp only [hq] at hrecv
              exact ⟨q, as', rfl, n, by rw [← Nat.eq_of_beq_eq_true hrecv]; exact hq⟩
          | _ => exact absurd hrecv (by simp [x_recv])
      obtain ⟨q, as', rfl, nq, hq⟩ := hrec
      have hstack : ((Value.ref q :: as').reverse ++ rest).map (x_cv ad) = (as'.map (x_cv ad)).reverse ++ .ref (ad q) :: rest.map (x_cv ad) := by
        rw [List.map_append, List.map_reverse, List.map_cons, List.reverse_cons, List.append_assoc]
        rfl
      have hlen : as'.length + 1 = M'.2.2.2.1 := by rw [← hbl, List.length_reverse]; rfl
      have hW8 : 2 * 0 + ((rest.map (x_cv ad)).map fun v => v.category).sum ≤ 8 := by omega
      have hpar := x_par (n := as'.length) (f := fun x => x + 1) st3 (fun x hx => by omega)
      obtain ⟨C, T, N, ty, d1, d2, -⟩ := x_class M'.2.1 st4
      have hcell := va_recv hK hW.1 d1 (x_at_obj (kc := kc) (ad := ad) (ρ := g.2.1) (σ := σ) (τ := τ) hq (by omega))
      rw [show ((C, T, N) : vw_C).1 = (x_y a).cls from by rw [c4]; exact d2] at hcell
      subst e1
      exact fin _ rfl (va_runV (own := x_cn M.2.1) (C := (x_y a).cls) (b := ad q) (As := as'.map (x_cv ad)) ⟨hx, hb, hml, hown, hts⟩ hMet ⟨⟨rfl, rfl, by show _ + 1 ≤ _; exact Nat.le_trans r1 hr1, by show _ ≤ _; exact Nat.le_trans r2 hr2, pay_in hts (x_ws_good hcok), List.mem_cons_self, hts _ c2, hts _ c3, c6, hpar, hts _ (x_has_in i5 rfl)⟩, hts _ st1, hts _ st2⟩ ⟨x_blind, hcell, x_prep hK hex hW⟩ rfl (by simp) hl.1 hstack hW8 hd ⟨by omega, by omega⟩) rfl
    · cases hi
set_option maxHeartbeats 1000000 in
theorem xs_special (l : Launch) {M : xM} {pc len a b : Nat} {v : Value} {ls st : List Value} {g : xG} {σ : xS} {τ : xL} {Q : xQ} {k2 : Nat} {raw : Instr} (hd : decode (x_by M.1) pc = .ok (raw, len)) (hi : x_oki (M.1, M.2.1, M.2.2.1, M.2.2.2.2.2.1) pc raw len (.invokespecial k2) a b v = true)
    (h : x_stp M (.invokespecial k2) (pc + len) a b v ls st g σ τ (fun pc ls st g σ τ => x_snd l M pc ls st g σ τ Q) Q (fun M' as g σ τ Q' => x_snd l M' 0 (x_loc as M'.2.2.1) [] g σ τ Q')) : x_snd l M pc ls st g σ τ Q := by
  intro hok p e R s m args below meth c fc D kc A Z n0 ad0 hK hex hA hscr hret ad H locs arr hW hS hag hl
  have go : ∀ {pc' : Nat} {ls' st' : List Value} {g' : xG} {σ' : xS} {τ' : xL}, x_snd l M pc' ls' st' g' σ' τ' Q → ∀ (ad' : Nat → Nat) (H' : Heap) (locs' : List Loc) (arr' : Array Slot), x_W kc D A ad' g' σ' τ' H' → va_S A s.heap H' locs' → x_ag M n0 ad0 ad' g' → x_lr ad' ls' arr' M.2.2.1 → W p l e R s m args below meth c H' locs' g'.2.2.1 g'.2.2.2 Z (F0 m pc' arr' (st'.map (x_cv ad'))) := fun k ad' H' locs' arr' w1 w2 w3 w4 => k hok p e R s m args below meth c fc D kc A Z n0 ad0 hK hex hA hscr hret ad' H' locs' arr' w1 w2 w3 w4
  obtain ⟨hx, hb, hml, hown, hts, hini, hr1, hr2, hr3, hr4⟩ := id fc
  unfold x_stp x_call at h
  dsimp only at h
  cases hM : x_nth x_tab a with
  | none => rw [hM] at h; exact h.elim
  | some M' =>
    rw [hM] at h
    dsimp only at h
    obtain ⟨hrm, h1⟩ := x_bif_t h
    clear h
    obtain ⟨r1, r2, r3, r4, r5⟩ := x_room_all hrm
    obtain ⟨bs, rest, rfl, hbl, h2⟩ := x_pop_iff _ _ _ h1
    clear h1
    rw [List.append_nil] at h2
    obtain ⟨hc, hC⟩ := x_bif_t h2
    clear h2
    obtain ⟨hcat, hc2⟩ := x_ok3 hc
    obtain ⟨hrecv, hc3⟩ := x_ok3 hc2
    obtain ⟨hwd0, hrf⟩ := x_ok3 hc3
    clear hc hc2 hc3
    have hwd := Nat.le_of_ble_eq_true hwd0
    clear hwd0
    have hcs := x_cat_sum ad rest 0 hcat
    obtain ⟨hok', hcok⟩ := x_cal hM
    obtain ⟨c1, c2, c3, c4, c5, c6, c7, c8, c9⟩ := x_cok_all hcok
    generalize has : bs.reverse = as at hC hrecv hwd
    have hbs : bs = as.reverse := by rw [← has, List.reverse_reverse]
    subst hbs
    have hMet := x_met l hM hC hwd r5 D kc ad H.size
    have hFc := va_free (wc := x_wd kc ad g.1 g.2.1 σ τ) hW.2.1 hS hA (List.range g.1.length) (by
      apply List.ext_getElem?
      intro k
      rw [List.getElem?_map, List.getElem?_map]
      by_cases hk : k < g.1.length
      · rw [List.getElem?_range hk, List.getElem?_eq_getElem (by rw [x_wd_len]; exact hk)]
        simp [List.getElem?_eq_getElem (show k < (x_wd kc ad g.1 g.2.1 σ τ).length by rw [x_wd_len]; exact hk)]
      · rw [List.getElem?_eq_none (by simpa using hk), List.getElem?_eq_none (by rw [x_wd_len]; omega)]
        rfl)
    have hag' : ∀ (u : xU), (∀ k, k < g.1.length → u.2.2.2 k = ad k) → (M'.2.2.2.2.2.1.2.2.1 = 0 → u.2.2.2 = ad) → rest.map (x_cv u.2.2.2) = rest.map (x_cv ad) ∧ x_as u.2.2.2 0 ls = x_as ad 0 ls := by
      intro u h1 h2
      rcases Bool.or_eq_true_iff.mp hrf with hz | hz
      · rw [h2 (Nat.eq_of_beq_eq_true hz)]
        exact ⟨rfl, rfl⟩
      · obtain ⟨z1, z2⟩ := x_refs_app _ _ hz
        exact ⟨x_cv_ag h1 _ z2, x_as_ag h1 _ _ z1⟩
    have fin : ∀ (pcc : Nat), pcc = pc + len → va_Run p l e R s m args below meth c H locs g.2.2.1 g.2.2.2 M'.2.2.2.2.2.1.2.2.1 M'.2.2.2.2.2.1.2.2.2 (F0 m pc arr ((as.reverse ++ rest).map (x_cv ad))) (rest.map (x_cv ad)) (x_Qc (x_post fun r g' σ' τ' => x_snd l M (pc + len) ls (x_push r rest) (g'.1, g'.2.1, g.2.2.1 + M'.2.2.2.2.2.1.2.2.1, g.2.2.2 + M'.2.2.2.2.2.1.2.2.2) σ' τ' Q) (x_B M' kc D ad g.1.length (va_A (x_wd kc ad g.1 g.2.1 σ τ) H.size)) (va_A (x_wd kc ad g.1 g.2.1 σ τ) H.size) (as.map (x_cv ad)).toArray) (va_A (x_wd kc ad g.1 g.2.1 σ τ) H.size) → len = 3 → W p l e R s m args below meth c H locs g.2.2.1 g.2.2.2 Z (F0 m pc arr ((as.reverse ++ rest).map (x_cv ad))) := by
      intro pcc hpcc run hlen3
      refine x_callW run hS (fun q _ h => hFc q h) hFc (fun v u t H1 locs1 ht hvm hp hB hS1 => ?_)
      obtain ⟨hp1, hp2⟩ := hp
      obtain ⟨b1, b2, b3, b4⟩ := hB
      rw [ht] at b1
      obtain ⟨e1, e2⟩ := hag' u b2 b4
      have hgo := go hp1 u.2.2.2 H1 locs1 arr ⟨b1.1, b1.2.1.weaken (fun k q _ h => hFc q.1 h), b1.2.2⟩ hS1 ⟨fun k hk => by rw [b2 k (Nat.lt_of_lt_of_le hk hag.2.1)]; exact hag.1 k hk, Nat.le_trans hag.2.1 b3, fun hz => by rw [b4 (by omega)]; exact hag.2.2.1 hz, r3, r4⟩ (by unfold x_lr; rw [e2]; exact hl)
      subst hlen3
      refine W.eq (g2 := F0 m (pc + 3) arr ((x_push v rest).map (x_cv u.2.2.2))) ?_ hgo
      cases v with
      | none => rw [show x_push none rest = rest from rfl, e1]; rfl
      | some x =>
        rw [show x_push (some x) rest = x :: rest from rfl, List.map_cons, e1, hp2 u.2.2.2 x rfl]
        rfl
    simp only [x_oki] at hi
    split at hi
    · rename_i idx
      obtain ⟨i1, i2⟩ := x_ok3 hi
      obtain ⟨i3, i4⟩ := x_ok3 i2
      have e1 := Nat.eq_of_beq_eq_true i1
      obtain ⟨st1, st2, st3, st4, st5⟩ := c9 (Nat.eq_of_beq_eq_true i3)
      have hrec : ∃ q as', as = .ref q :: as' ∧ ∃ n, x_nth g.1 q = some (M'.2.1, n) := by
        simp only [Bool.not_true, Bool.false_or] at hrecv
        cases as with
        | nil => exact absurd hrecv (by simp [x_recv])
        | cons v as' =>
          cases v with
          | ref q =>
            unfold x_recv at hrecv
            cases hq : x_nth g.1 q with
            | none => simp [hq] at hrecv
            | some w =>
              obtain ⟨kd, n⟩ := w
              simp only [hq] at hrecv
              exact ⟨q, as', rfl, n, by rw [← Nat.eq_of_beq_eq_true hrecv]; exact hq⟩
          | _ => exact absurd hrecv (by simp [x_recv])
      obtain ⟨q, as', rfl, nq, hq⟩ := hrec
      have hstack : ((Value.ref q :: as').reverse ++ rest).map (x_cv ad) = (as'.map (x_cv ad)).reverse ++ .ref (ad q) :: rest.map (x_cv ad) := by
        rw [List.map_append, List.map_reverse, List.map_cons, List.reverse_cons, List.append_assoc]
        rfl
      have hlen : as'.length + 1 = M'.2.2.2.1 := by rw [← hbl, List.length_reverse]; rfl
      have hW8 : 2 * 0 + ((rest.map (x_cv ad)).map fun v => v.category).sum ≤ 8 := by omega
      have hpar := x_par (n := as'.length) (f := fun x => x + 1) st3 (fun x hx => by omega)
      have hcm : Cond.code (x_y a) (x_by a) M'.2.2.1 none ∈ x_ws a M' := by unfold x_ws; rw [st5]; exact List.mem_cons_self
      have hcb : (Cond.code (x_y a) (x_by a) M'.2.2.1 none).before args s = true := by
        have := hts _ c2
        rw [st5] at this
        exact this
      subst e1
      rcases Bool.or_eq_true_iff.mp i4 with i5 | i5
      · exact fin _ rfl (va_runI (own := x_cn M.2.1) (b := ad q) (As := as'.map (x_cv ad)) ⟨hx, hb, hml, hown, hts⟩ hMet ⟨⟨rfl, rfl, by show _ + 1 ≤ _; exact Nat.le_trans r1 hr1, by show _ ≤ _; exact Nat.le_trans r2 hr2, pay_in hts (x_ws_good hcok), hcm, hcb, hts _ c3, c6, hpar, hts _ (x_has_in i5 rfl)⟩, st2, hts _ st1⟩ ⟨x_blind, x_prep hK hex hW⟩ rfl (by simp) hl.1 hstack hW8 hd ⟨by omega, by omega⟩) rfl
      · exact fin _ rfl (va_runIN (own := x_cn M.2.1) (b := ad q) (As := as'.map (x_cv ad)) ⟨hx, hb, hml, hown, hts⟩ hMet ⟨⟨⟨rfl, rfl, by show _ + 1 ≤ _; exact Nat.le_trans r1 hr1, by show _ ≤ _; exact Nat.le_trans r2 hr2, pay_in hts (x_ws_good hcok), hcm⟩, hcb, hts _ c3, c6, hpar, va_Nw.use rfl (hex.1 _ (x_has_lw i5) rfl)⟩, st2, hts _ st1⟩ ⟨x_blind, x_prep hK hex hW⟩ rfl (by simp) hl.1 hstack hW8 hd ⟨by omega, by omega⟩) rfl
    · cases hi
