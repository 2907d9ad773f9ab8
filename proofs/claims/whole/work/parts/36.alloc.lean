theorem x_cell_ad {kc : Nat → ClassId} {ad ad' : Nat → Nat} {ρ : xR} {σ : xS} {τ : xL} {q : Nat} {s : Nat × Nat} (h : ∀ j r, ρ q j = some r → ad' r = ad r) : x_cell kc ad' ρ σ τ q s = x_cell kc ad ρ σ τ q s := by
  have e : ∀ j, (ρ q j).map ad' = (ρ q j).map ad := by
    intro j
    cases hj : ρ q j with
    | none => rfl
    | some r => simp [h j r hj]
  have e2 : x_val ad' ρ σ τ q s.1 = x_val ad ρ σ τ q s.1 := by
    funext k
    simp only [x_val, e]
  simp only [x_cell, e, e2]
theorem x_nth_app_l {α : Type} {l r : List α} {k : Nat} (h : k < l.length) : x_nth (l ++ r) k = x_nth l k := by
  rw [x_nth_get, x_nth_get, List.getElem?_append_left h]
theorem x_nth_app_r {α : Type} {l r : List α} {k : Nat} : x_nth (l ++ r) (l.length + k) = x_nth r k := by
  rw [x_nth_get, x_nth_get, List.getElem?_append_right (by omega)]
  congr 1
  omega
theorem x_wd_app {kc : Nat → ClassId} {ad ad' : Nat → Nat} {sh l : List (Nat × Nat)} {ρ ρ' : xR} {σ σ' : xS} {τ τ' : xL} (hag : ∀ k, k < sh.length → ad' k = ad k) (hwf : ∀ q j r, ρ q j = some r → r < sh.length) (h1 : ∀ k, k < sh.length → ρ' k = ρ k) (h2 : ∀ k, k < sh.length → σ' k = σ k) (h3 : ∀ k, k < sh.length → τ' k = τ k) :
    x_wd kc ad' (sh ++ l) ρ' σ' τ' = x_wd kc ad sh ρ σ τ ++ (List.range l.length).map (fun j => (ad' (sh.length + j), x_cell kc ad' ρ' σ' τ' (sh.length + j) ((x_nth l j).getD (0, 0)))) := by
  apply List.ext_getElem?
  intro k
  rw [x_wd_get]
  by_cases hk : k < sh.length
  · rw [x_nth_app_l hk, List.getElem?_append_left (by rw [x_wd_len]; exact hk), x_wd_get, hag k hk]
    congr 1
    funext s
    rw [x_cell_congr (h1 k hk) (h2 k hk) (h3 k hk), x_cell_ad (fun j r hr => hag r (hwf k j r hr))]
  · obtain ⟨j, rfl⟩ : ∃ j, k = sh.length + j := ⟨k - sh.length, by omega⟩
    rw [x_nth_app_r, List.getElem?_append_right (by rw [x_wd_len]; omega), x_wd_len, Nat.add_sub_cancel_left, List.getElem?_map]
    by_cases hj : j < l.length
    · rw [List.getElem?_range hj, x_nth_get, List.getElem?_eq_getElem hj]
      simp [x_nth_get, List.getElem?_eq_getElem hj]
    · rw [List.getElem?_eq_none (by simpa using hj), x_nth_get, List.getElem?_eq_none (by omega)]
      rfl
def x_ad (ad : Nat → Nat) (n q : Nat) : Nat → Nat := fun k => if k = n then q else ad k
theorem x_ad_n {ad : Nat → Nat} {n q : Nat} : x_ad ad n q n = q := if_pos rfl
theorem x_ad_lt {ad : Nat → Nat} {n q k : Nat} (h : k < n) : x_ad ad n q k = ad k := if_neg (Nat.ne_of_lt h)
theorem x_zs_lt {α : Type} {z : α} {σ : Nat → Nat → α} {q k : Nat} (h : k < q) : x_zs z σ q k = σ k := by
  funext j
  exact if_neg (by omega)
theorem x_zs_ge {α : Type} {z : α} {σ : Nat → Nat → α} {q k : Nat} (h : q ≤ k) : x_zs z σ q k = fun _ => z := by
  funext j
  exact if_pos h
theorem x_no_ne {ρ : xR} {q k : Nat} (h : k ≠ q) : x_no ρ q k = ρ k := by
  funext j
  have e : Nat.beq k q = false := by
    cases hb : Nat.beq k q
    · rfl
    · exact absurd (Nat.eq_of_beq_eq_true hb) h
  simp [x_no, e]
theorem x_no_eq {ρ : xR} {q : Nat} : x_no ρ q q = fun _ => none := by
  funext j
  simp [x_no]
/-- the world with one more cell -/
theorem x_push1 {kc : Nat → ClassId} {ad : Nat → Nat} {sh : List (Nat × Nat)} {ρ : xR} {σ : xS} {τ : xL} {q : Nat} {s : Nat × Nat} (hwf : ∀ q j r, ρ q j = some r → r < sh.length) :
    x_wd kc (x_ad ad sh.length q) (sh ++ [s]) (x_no ρ sh.length) (x_zs 0 σ sh.length) (x_zs 0 τ sh.length) = x_wd kc ad sh ρ σ τ ++ [(q, x_cell kc (x_ad ad sh.length q) (x_no ρ sh.length) (x_zs 0 σ sh.length) (x_zs 0 τ sh.length) sh.length s)] := by
  rw [x_wd_app (ad := ad) (ρ := ρ) (σ := σ) (τ := τ) (fun k hk => x_ad_lt hk) hwf (fun k hk => x_no_ne (Nat.ne_of_lt hk)) (fun k hk => x_zs_lt hk) (fun k hk => x_zs_lt hk)]
  congr 1
  simp [x_nth, x_ad_n]
def x_dv (ci k : Nat) : Value := match x_ft ci k with
  | 0 => .int 0
  | 1 => .long 0
  | _ => .null
set_option maxHeartbeats 1000000 in
theorem xs_new (l : Launch) {M : xM} {pc len a b : Nat} {v : Value} {ls st : List Value} {g : xG} {σ : xS} {τ : xL} {Q : xQ} {k2 : Nat} {raw : Instr} (hd : decode (x_by M.1) pc = .ok (raw, len)) (hi : x_oki (M.1, M.2.1, M.2.2.1, M.2.2.2.2.2.1) pc raw len (.new k2) a b v = true)
    (h : x_stp M (.new k2) (pc + len) a b v ls st g σ τ (fun pc ls st g σ τ => x_snd l M pc ls st g σ τ Q) Q (fun M' as g σ τ Q' => x_snd l M' 0 (x_loc as M'.2.2.1) [] g σ τ Q')) : x_snd l M pc ls st g σ τ Q := by
  intro hok p e R s m args below meth c fc D kc A Z n0 ad0 hK hex hA hscr hret ad H locs arr hW hS hag hl
  have go : ∀ {pc' : Nat} {ls' st' : List Value} {g' : xG} {σ' : xS} {τ' : xL}, x_snd l M pc' ls' st' g' σ' τ' Q → ∀ (ad' : Nat → Nat) (H' : Heap) (locs' : List Loc) (arr' : Array Slot), x_W kc D A ad' g' σ' τ' H' → va_S A s.heap H' locs' → x_ag M n0 ad0 ad' g' → x_lr ad' ls' arr' M.2.2.1 → W p l e R s m args below meth c H' locs' g'.2.2.1 g'.2.2.2 Z (F0 m pc' arr' (st'.map (x_cv ad'))) := fun k ad' H' locs' arr' w1 w2 w3 w4 => k hok p e R s m args below meth c fc D kc A Z n0 ad0 hK hex hA hscr hret ad' H' locs' arr' w1 w2 w3 w4
  obtain ⟨hx, hb, hml, hown, hts, hini, hr1, hr2, hr3, hr4⟩ := id fc
  obtain ⟨hc, h⟩ := x_bif_t h
  obtain ⟨hc1, hc⟩ := x_ok3 hc
  obtain ⟨hc2, hrf⟩ := x_ok3 hc
  have hc1 := Nat.le_of_ble_eq_true hc1
  have hc2 := Nat.le_of_ble_eq_true hc2
  simp only [x_oki] at hi
  split at hi
  · obtain ⟨i1, i2⟩ := x_ok3 hi
    obtain ⟨i3, i4⟩ := x_ok3 i2
    obtain ⟨i5, i6⟩ := x_ok3 i4
    have e1 := Nat.eq_of_beq_eq_true i1
    have ha8 : a < 8 := Nat.le_of_ble_eq_true i3
    have hbN := Nat.eq_of_beq_eq_true i5
    obtain ⟨C, T, N, ty, c1, c2, c3, c4, c5, c6, c7, c8, c9, c10, c11⟩ := x_class a ha8
    rw [c7] at hbN
    subst e1
    subst hbN
    have hlink := hts _ (x_has_in i6 rfl)
    rw [← c2] at hlink
    have hfs : ∀ j, j < b → defaultValue (ty j) = vp_V ((List.range b).map (x_dv a)) j := by
      intro j hj
      have e : vp_V ((List.range b).map (x_dv a)) j = x_dv a j := by
        unfold vp_V
        rw [List.getD_eq_getElem?_getD, List.getElem?_map, List.getElem?_range hj]
        rfl
      rw [e]
      obtain ⟨d1, d2, d3, d4⟩ := c9 j hj
      unfold x_dv
      rcases (show x_ft a j = 0 ∨ x_ft a j = 1 ∨ x_ft a j = 2 by omega) with hq | hq | hq
      · rw [hq, d1 hq]; rfl
      · rw [hq, d2 hq]; rfl
      · rw [hq]; exact (x_isr_ok (d3 hq) 0).2.2
    refine va_new (ci := a) (fs := (List.range b).map (x_dv a)) hx hb hts c3 ty c4 hown hlink (hts _ c10) (hts _ c11) hK hW.1 hW.2.1 hS hA c1 hfs (by omega) (by omega) hd (fun q H1 hP1 hD1 hS1 => ?_)
    · have ec : x_cell kc (x_ad ad g.1.length q) (x_no g.2.1 g.1.length) (x_zs 0 σ g.1.length) (x_zs 0 τ g.1.length) g.1.length (a, b) = .inr (a, (List.range b).map (x_dv a)) := by
        have : x_val (x_ad ad g.1.length q) (x_no g.2.1 g.1.length) (x_zs 0 σ g.1.length) (x_zs 0 τ g.1.length) g.1.length a = x_dv a := by
          funext k
          unfold x_val x_dv
          rcases x_ft a k with _ | _ | n <;> simp [x_no_eq, x_zs_ge (Nat.le_refl g.1.length), va_rf]
        simp [x_cell, this, show a < 16 by omega]
      have ew := x_push1 (kc := kc) (ad := ad) (ρ := g.2.1) (σ := σ) (τ := τ) (q := q) (s := (a, b)) hW.2.2
      rw [ec] at ew
      rw [← ew] at hP1 hD1
      have e2 : x_as (x_ad ad g.1.length q) 0 ls = x_as ad 0 ls := x_as_ag (fun k hk => x_ad_lt hk) _ _ (x_refs_app _ _ hrf).1
      have e3 : st.map (x_cv (x_ad ad g.1.length q)) = st.map (x_cv ad) := x_cv_ag (fun k hk => x_ad_lt hk) _ (x_refs_app _ _ hrf).2
      refine W.eq (g2 := F0 m (pc + 3) arr ((Value.ref g.1.length :: st).map (x_cv (x_ad ad g.1.length q)))) ?_ (go h (x_ad ad g.1.length q) H1 locs arr ⟨hP1, hD1, fun q' j r hr => ?_⟩ hS1 ⟨fun k hk => ?_, ?_, fun hz => ?_, hc1, hc2⟩ ?_)
      · rw [List.map_cons, e3]
        show _ = F0 m _ arr (.ref (x_ad ad g.1.length q g.1.length) :: _)
        rw [x_ad_n]
      · by_cases hq : q' = g.1.length
        · subst hq
          simp [x_no] at hr
        · simp only [x_no_ne hq] at hr
          have := hW.2.2 _ _ _ hr
          simp only [List.length_append, List.length_cons, List.length_nil]
          omega
      · rw [x_ad_lt (Nat.lt_of_lt_of_le hk hag.2.1)]
        exact hag.1 k hk
      · simp only [List.length_append]
        exact Nat.le_trans hag.2.1 (by omega)
      · omega
      · unfold x_lr
        rw [e2]
        exact hl
  · cases hi
set_option maxHeartbeats 1000000 in
theorem xs_newarray (l : Launch) {M : xM} {pc len a b : Nat} {v : Value} {ls st : List Value} {g : xG} {σ : xS} {τ : xL} {Q : xQ} {t : ArrayType} {raw : Instr} (hd : decode (x_by M.1) pc = .ok (raw, len)) (hi : x_oki (M.1, M.2.1, M.2.2.1, M.2.2.2.2.2.1) pc raw len (.newarray t) a b v = true)
    (h : x_stp M (.newarray t) (pc + len) a b v ls st g σ τ (fun pc ls st g σ τ => x_snd l M pc ls st g σ τ Q) Q (fun M' as g σ τ Q' => x_snd l M' 0 (x_loc as M'.2.2.1) [] g σ τ Q')) : x_snd l M pc ls st g σ τ Q := by
  intro hok p e R s m args below meth c fc D kc A Z n0 ad0 hK hex hA hscr hret ad H locs arr hW hS hag hl
  have go : ∀ {pc' : Nat} {ls' st' : List Value} {g' : xG} {σ' : xS} {τ' : xL}, x_snd l M pc' ls' st' g' σ' τ' Q → ∀ (ad' : Nat → Nat) (H' : Heap) (locs' : List Loc) (arr' : Array Slot), x_W kc D A ad' g' σ' τ' H' → va_S A s.heap H' locs' → x_ag M n0 ad0 ad' g' → x_lr ad' ls' arr' M.2.2.1 → W p l e R s m args below meth c H' locs' g'.2.2.1 g'.2.2.2 Z (F0 m pc' arr' (st'.map (x_cv ad'))) := fun k ad' H' locs' arr' w1 w2 w3 w4 => k hok p e R s m args below meth c fc D kc A Z n0 ad0 hK hex hA hscr hret ad' H' locs' arr' w1 w2 w3 w4
  obtain ⟨hx, hb, hml, hown, hts, hini, hr1, hr2, hr3, hr4⟩ := id fc
  rcases st with _ | ⟨(n | _ | _ | _ | _ | _ | _), st⟩ <;> first | exact False.elim h | skip
  obtain ⟨N, rfl, hN, h⟩ := h
  obtain ⟨hc, h⟩ := x_bif_t h
  obtain ⟨hc1, hc⟩ := x_ok3 hc
  obtain ⟨hc2, hrf⟩ := x_ok3 hc
  have hc1 := Nat.le_of_ble_eq_true hc1
  have hc2 := Nat.le_of_ble_eq_true hc2
  simp only [x_oki] at hi
  split at hi
  · obtain ⟨e1, e2⟩ := x_ok2 hi
    subst e1
    rw [e2] at hd
    clear e2 hi
    cases t <;> first | exact False.elim h | skip
    · rename_i hdec
      have hnc : (nI N).toNatClampNeg = N := nI_clamp (by omega)
      refine va_newa (atype := .boolean) (a0 := (N, .inl (fun _ => 0))) (N' := N) hx hb (hts _ (x_tbl_in (w := .arrayClass .boolean) (by decide +kernel) rfl)) rfl hK hW.1 hW.2.1 hS hA (fun cA => ?_) (nI_pos (by omega)) hnc (by show N * 1 ≤ _; omega) (by omega) (by omega) hd (fun q cA H1 hK1 hP1 hD1 hS1 => ?_)
      · rw [vp_cell_i]
        rfl
      have ecA : cA = kc 17 := x_RA_eq (hK1.2 4 (cA, .boolean) rfl).2 (hK.2 1 (kc 17, .boolean) rfl).2
      subst ecA
      have ec : x_cell kc (x_ad ad g.1.length q) (x_no g.2.1 g.1.length) (x_zs 0 σ g.1.length) (x_zs 0 τ g.1.length) g.1.length (17, N) = .inl (kc 17, N, .inl (fun _ => 0)) := by
        simp [x_cell, x_zs_ge (Nat.le_refl g.1.length)]
      have ew := x_push1 (kc := kc) (ad := ad) (ρ := g.2.1) (σ := σ) (τ := τ) (q := q) (s := (17, N)) hW.2.2
      rw [ec] at ew
      rw [← ew] at hP1 hD1
      have e2 : x_as (x_ad ad g.1.length q) 0 ls = x_as ad 0 ls := x_as_ag (fun k hk => x_ad_lt hk) _ _ (x_refs_app _ _ hrf).1
      have e3 : st.map (x_cv (x_ad ad g.1.length q)) = st.map (x_cv ad) := x_cv_ag (fun k hk => x_ad_lt hk) _ (x_refs_app _ _ hrf).2
      refine W.eq (g2 := F0 m (pc + 2) arr ((Value.ref g.1.length :: st).map (x_cv (x_ad ad g.1.length q)))) ?_ (go h (x_ad ad g.1.length q) H1 locs arr ⟨hP1, hD1, fun q' j r hr => ?_⟩ hS1 ⟨fun k hk => ?_, ?_, fun hz => ?_, hc1, hc2⟩ ?_)
      · rw [List.map_cons, e3]
        show _ = F0 m _ arr (.ref (x_ad ad g.1.length q g.1.length) :: _)
        rw [x_ad_n]
      · by_cases hq : q' = g.1.length
        · subst hq
          simp [x_no] at hr
        · simp only [x_no_ne hq] at hr
          have := hW.2.2 _ _ _ hr
          simp only [List.length_append, List.length_cons, List.length_nil]
          omega
      · rw [x_ad_lt (Nat.lt_of_lt_of_le hk hag.2.1)]
        exact hag.1 k hk
      · simp only [List.length_append]
        exact Nat.le_trans hag.2.1 (by omega)
      · omega
      · unfold x_lr
        rw [e2]
        exact hl
    · rename_i hdec
      have hnc : (nI N).toNatClampNeg = N := nI_clamp (by omega)
      refine va_newa (atype := .int) (a0 := (N, .inl (fun _ => 0))) (N' := N) hx hb (hts _ (x_tbl_in (w := .arrayClass .int) (by decide +kernel) rfl)) rfl hK hW.1 hW.2.1 hS hA (fun cA => ?_) (nI_pos (by omega)) hnc (by show N * 4 ≤ _; omega) (by omega) (by omega) hd (fun q cA H1 hK1 hP1 hD1 hS1 => ?_)
      · rw [vp_cell_i]
        rfl
      have ecA : cA = kc 16 := x_RA_eq (hK1.2 4 (cA, .int) rfl).2 (hK.2 0 (kc 16, .int) rfl).2
      subst ecA
      have ec : x_cell kc (x_ad ad g.1.length q) (x_no g.2.1 g.1.length) (x_zs 0 σ g.1.length) (x_zs 0 τ g.1.length) g.1.length (16, N) = .inl (kc 16, N, .inl (fun _ => 0)) := by
        simp [x_cell, x_zs_ge (Nat.le_refl g.1.length)]
      have ew := x_push1 (kc := kc) (ad := ad) (ρ := g.2.1) (σ := σ) (τ := τ) (q := q) (s := (16, N)) hW.2.2
      rw [ec] at ew
      rw [← ew] at hP1 hD1
      have e2 : x_as (x_ad ad g.1.length q) 0 ls = x_as ad 0 ls := x_as_ag (fun k hk => x_ad_lt hk) _ _ (x_refs_app _ _ hrf).1
      have e3 : st.map (x_cv (x_ad ad g.1.length q)) = st.map (x_cv ad) := x_cv_ag (fun k hk => x_ad_lt hk) _ (x_refs_app _ _ hrf).2
      refine W.eq (g2 := F0 m (pc + 2) arr ((Value.ref g.1.length :: st).map (x_cv (x_ad ad g.1.length q)))) ?_ (go h (x_ad ad g.1.length q) H1 locs arr ⟨hP1, hD1, fun q' j r hr => ?_⟩ hS1 ⟨fun k hk => ?_, ?_, fun hz => ?_, hc1, hc2⟩ ?_)
      · rw [List.map_cons, e3]
        show _ = F0 m _ arr (.ref (x_ad ad g.1.length q g.1.length) :: _)
        rw [x_ad_n]
      · by_cases hq : q' = g.1.length
        · subst hq
          simp [x_no] at hr
        · simp only [x_no_ne hq] at hr
          have := hW.2.2 _ _ _ hr
          simp only [List.length_append, List.length_cons, List.length_nil]
          omega
      · rw [x_ad_lt (Nat.lt_of_lt_of_le hk hag.2.1)]
        exact hag.1 k hk
      · simp only [List.length_append]
        exact Nat.le_trans hag.2.1 (by omega)
      · omega
      · unfold x_lr
        rw [e2]
        exact hl
  · cases hi
set_option maxHeartbeats 1000000 in
theorem xs_anewarray (l : Launch) {M : xM} {pc len a b : Nat} {v : Value} {ls st : List Value} {g : xG} {σ : xS} {τ : xL} {Q : xQ} {k2 : Nat} {raw : Instr} (hd : decode (x_by M.1) pc = .ok (raw, len)) (hi : x_oki (M.1, M.2.1, M.2.2.1, M.2.2.2.2.2.1) pc raw len (.anewarray k2) a b v = true)
    (h : x_stp M (.anewarray k2) (pc + len) a b v ls st g σ τ (fun pc ls st g σ τ => x_snd l M pc ls st g σ τ Q) Q (fun M' as g σ τ Q' => x_snd l M' 0 (x_loc as M'.2.2.1) [] g σ τ Q')) : x_snd l M pc ls st g σ τ Q := by
  intro hok p e R s m args below meth c fc D kc A Z n0 ad0 hK hex hA hscr hret ad H locs arr hW hS hag hl
  have go : ∀ {pc' : Nat} {ls' st' : List Value} {g' : xG} {σ' : xS} {τ' : xL}, x_snd l M pc' ls' st' g' σ' τ' Q → ∀ (ad' : Nat → Nat) (H' : Heap) (locs' : List Loc) (arr' : Array Slot), x_W kc D A ad' g' σ' τ' H' → va_S A s.heap H' locs' → x_ag M n0 ad0 ad' g' → x_lr ad' ls' arr' M.2.2.1 → W p l e R s m args below meth c H' locs' g'.2.2.1 g'.2.2.2 Z (F0 m pc' arr' (st'.map (x_cv ad'))) := fun k ad' H' locs' arr' w1 w2 w3 w4 => k hok p e R s m args below meth c fc D kc A Z n0 ad0 hK hex hA hscr hret ad' H' locs' arr' w1 w2 w3 w4
  obtain ⟨hx, hb, hml, hown, hts, hini, hr1, hr2, hr3, hr4⟩ := id fc
  rcases st with _ | ⟨(n | _ | _ | _ | _ | _ | _), st⟩ <;> first | exact False.elim h | skip
  obtain ⟨N, rfl, hN, h⟩ := h
  obtain ⟨hc, h⟩ := x_bif_t h
  obtain ⟨hc1, hc⟩ := x_ok3 hc
  obtain ⟨hc2, hrf⟩ := x_ok3 hc
  have hc1 := Nat.le_of_ble_eq_true hc1
  have hc2 := Nat.le_of_ble_eq_true hc2
  simp only [x_oki] at hi
  split at hi
  · obtain ⟨i1, i2⟩ := x_ok3 hi
    have e1 := Nat.eq_of_beq_eq_true i1
    subst e1
    have hnc : (nI N).toNatClampNeg = N := nI_clamp (by omega)
    refine va_newq (N' := N) hx hb hown (hts _ (x_has_in i2 rfl)) hex.2.1 hK hW.1 hW.2.1 hS hA (nI_pos (by omega)) hnc (by omega) (by omega) (by omega) hd (fun q cA H1 hK1 hP1 hD1 hS1 => ?_)
    · have ecA : cA = kc 19 := x_RA_eq (hK1.2 4 (cA, .object "SnowTracks$Pass") rfl).2 (hK.2 3 (kc 19, .object "SnowTracks$Pass") rfl).2
      subst ecA
      have ec : x_cell kc (x_ad ad g.1.length q) (x_no g.2.1 g.1.length) (x_zs 0 σ g.1.length) (x_zs 0 τ g.1.length) g.1.length (19, N) = .inl (kc 19, N, .inr (.inr (.inr (.inr (fun _ => none))))) := by
        simp [x_cell, x_no_eq]
      have ew := x_push1 (kc := kc) (ad := ad) (ρ := g.2.1) (σ := σ) (τ := τ) (q := q) (s := (19, N)) hW.2.2
      rw [ec] at ew
      rw [← ew] at hP1 hD1
      have e2 : x_as (x_ad ad g.1.length q) 0 ls = x_as ad 0 ls := x_as_ag (fun k hk => x_ad_lt hk) _ _ (x_refs_app _ _ hrf).1
      have e3 : st.map (x_cv (x_ad ad g.1.length q)) = st.map (x_cv ad) := x_cv_ag (fun k hk => x_ad_lt hk) _ (x_refs_app _ _ hrf).2
      refine W.eq (g2 := F0 m (pc + 3) arr ((Value.ref g.1.length :: st).map (x_cv (x_ad ad g.1.length q)))) ?_ (go h (x_ad ad g.1.length q) H1 locs arr ⟨hP1, hD1, fun q' j r hr => ?_⟩ hS1 ⟨fun k hk => ?_, ?_, fun hz => ?_, hc1, hc2⟩ ?_)
      · rw [List.map_cons, e3]
        show _ = F0 m _ arr (.ref (x_ad ad g.1.length q g.1.length) :: _)
        rw [x_ad_n]
      · by_cases hq : q' = g.1.length
        · subst hq
          simp [x_no] at hr
        · simp only [x_no_ne hq] at hr
          have := hW.2.2 _ _ _ hr
          simp only [List.length_append, List.length_cons, List.length_nil]
          omega
      · rw [x_ad_lt (Nat.lt_of_lt_of_le hk hag.2.1)]
        exact hag.1 k hk
      · simp only [List.length_append]
        exact Nat.le_trans hag.2.1 (by omega)
      · omega
      · unfold x_lr
        rw [e2]
        exact hl
  · cases hi
