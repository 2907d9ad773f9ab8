theorem x_at_obj {kc : Nat → ClassId} {ad : Nat → Nat} {sh : List (Nat × Nat)} {ρ : xR} {σ : xS} {τ : xL} {q kd n : Nat} (h : x_nth sh q = some (kd, n)) (hk : kd < 16) : (x_wd kc ad sh ρ σ τ)[q]? = some (ad q, .inr (kd, (List.range n).map (x_val ad ρ σ τ q kd))) := by
  rw [x_wd_get, h]
  simp [x_cell, hk]
theorem x_at_arr {kc : Nat → ClassId} {ad : Nat → Nat} {sh : List (Nat × Nat)} {ρ : xR} {σ : xS} {τ : xL} {q kd n : Nat} (h : x_nth sh q = some (kd, n)) (hk : ¬ kd < 16) (hk2 : kd < 18) : (x_wd kc ad sh ρ σ τ)[q]? = some (ad q, .inl (kc kd, n, .inl (σ q))) := by
  rw [x_wd_get, h]
  simp [x_cell, hk, hk2]
theorem x_at_ref {kc : Nat → ClassId} {ad : Nat → Nat} {sh : List (Nat × Nat)} {ρ : xR} {σ : xS} {τ : xL} {q kd n : Nat} (h : x_nth sh q = some (kd, n)) (hk : ¬ kd < 18) : (x_wd kc ad sh ρ σ τ)[q]? = some (ad q, .inl (kc kd, n, .inr (.inr (.inr (.inr (fun j => (ρ q j).map ad)))))) := by
  rw [x_wd_get, h]
  simp [x_cell, hk, show ¬ kd < 16 by omega]
theorem x_fs_at {ad : Nat → Nat} {ρ : xR} {σ : xS} {τ : xL} {q kd n b : Nat} (h : b < n) : ((List.range n).map (x_val ad ρ σ τ q kd))[b]? = some (x_val ad ρ σ τ q kd b) := by
  rw [List.getElem?_map, List.getElem?_range h]
  rfl
theorem x_fs_set {ad : Nat → Nat} {ρ ρ' : xR} {σ σ' : xS} {τ τ' : xL} {q kd n b : Nat} {w : Value} (hb : x_val ad ρ' σ' τ' q kd b = w) (ho : ∀ k, k ≠ b → x_val ad ρ' σ' τ' q kd k = x_val ad ρ σ τ q kd k) : (List.range n).map (x_val ad ρ' σ' τ' q kd) = ((List.range n).map (x_val ad ρ σ τ q kd)).set b w := by
  apply List.ext_getElem?
  intro k
  by_cases hk : k = b
  · subst hk
    by_cases hl : k < n
    · rw [List.getElem?_set_self (by simpa using hl), x_fs_at hl, hb]
    · rw [List.getElem?_eq_none (by simp; omega), List.getElem?_eq_none (by simp; omega)]
  · rw [List.getElem?_set_ne (Ne.symm hk), List.getElem?_map, List.getElem?_map]
    by_cases hl : k < n
    · rw [List.getElem?_range hl]
      simp [ho k hk]
    · rw [List.getElem?_eq_none (by simpa using hl)]
      rfl
theorem x_nar01 {x : Int32} (h : x = 0 ∨ x = 1) : vp_nar .boolean x = x := by
  rcases h with rfl | rfl <;> decide
theorem x_sw_at {K : Nat → Prop} {d : Nat} {x : Int32} : ∀ (sw : List (Int32 × Nat)) (j : Nat) (t : Nat), sw[j]? = some (x, t) → (∀ (i : Nat) (y : Int32) (u : Nat), i < j → sw[i]? = some (y, u) → y ≠ x) → x_sw sw x d K → K t
  | [], _, _, h, _, _ => by simp at h
  | (y, u) :: r, 0, t, h, _, hs => by
    simp only [List.getElem?_cons_zero, Option.some.injEq, Prod.mk.injEq] at h
    obtain ⟨rfl, rfl⟩ := h
    exact hs.1 rfl
  | (y, u) :: r, j + 1, t, h, hn, hs => by
    have hy : ¬ x = y := fun e => hn 0 y u (by omega) (by simp) e.symm
    exact x_sw_at r j t (by simpa using h) (fun i z w hi hz => hn (i + 1) z w (by omega) (by simpa using hz)) (hs.2 hy)
theorem x_sw_none {K : Nat → Prop} {d : Nat} {x : Int32} : ∀ (sw : List (Int32 × Nat)), (∀ (i : Nat) (y : Int32) (u : Nat), sw[i]? = some (y, u) → y ≠ x) → x_sw sw x d K → K d
  | [], _, hs => hs
  | (y, u) :: r, hn, hs => x_sw_none r (fun i z w hz => hn (i + 1) z w (by simpa using hz)) (hs.2 (fun e => hn 0 y u (by simp) e.symm))
theorem x_swt_at {pc : Nat} : ∀ (os : List Int) (lo : Int) (sw : List (Int32 × Nat)), x_swt_ok pc lo os sw = true → ∀ (i : Nat), (∀ (y : Int32) (u : Nat), sw[i]? = some (y, u) → y.toInt = lo + (i : Int)) ∧ (∀ o : Int, os[i]? = some o → ∃ (y : Int32) (u : Nat), sw[i]? = some (y, u) ∧ (pc : Int) + o = (u : Int)) ∧ sw.length = os.length
  | [], lo, [], _, i => by simp
  | o :: os, lo, (v, t) :: r, h, i => by
    simp only [x_swt_ok, Bool.and_eq_true, decide_eq_true_eq] at h
    obtain ⟨h1, h2, h3⟩ := h
    cases i with
    | zero =>
      have := (x_swt_at os (lo + 1) r h3 0).2.2
      refine ⟨fun y u e => ?_, fun o' e => ⟨v, t, by simp, ?_⟩, by simp [this]⟩
      · simp only [List.getElem?_cons_zero, Option.some.injEq, Prod.mk.injEq] at e
        rw [← e.1, h1]
        simp
      · simp only [List.getElem?_cons_zero, Option.some.injEq] at e
        rw [← e, h2]
    | succ i =>
      obtain ⟨g1, g2, g3⟩ := x_swt_at os (lo + 1) r h3 i
      refine ⟨fun y u e => ?_, fun o' e => ?_, by simp [g3]⟩
      · have := g1 y u (by simpa using e)
        rw [this]
        omega
      · obtain ⟨y, u, e1, e2⟩ := g2 o' (by simpa using e)
        exact ⟨y, u, by simpa using e1, e2⟩
  | [], _, _ :: _, h, _ => by simp [x_swt_ok] at h
  | _ :: _, _, [], h, _ => by simp [x_swt_ok] at h
theorem x_swl_at {pc d : Nat} {di : Int} {K : Nat → Prop} {x : Int32} (hdi : (pc : Int) + di = (d : Int)) : ∀ (os : List (Int × Int)) (sw : List (Int32 × Nat)), x_swl_ok pc os sw = true → x_sw sw x d K → ∃ u : Nat, (pc : Int) + Op.lookupswitch.offset os di x.toInt = (u : Int) ∧ K u
  | [], [], _, h => ⟨d, hdi, h⟩
  | (k, o) :: os, (v, t) :: r, h, hs => by
    simp only [x_swl_ok, Bool.and_eq_true, decide_eq_true_eq] at h
    obtain ⟨h1, h2, h3⟩ := h
    by_cases e : x = v
    · refine ⟨t, ?_, hs.1 e⟩
      rw [Op.lookupswitch.offset_cons, if_pos (by rw [e, h1])]
      exact h2
    · obtain ⟨u, e1, e2⟩ := x_swl_at hdi os r h3 (hs.2 e)
      exact ⟨u, by rw [lv_osw e h1]; exact e1, e2⟩
  | [], _ :: _, h, _ => by simp [x_swl_ok] at h
  | _ :: _, [], h, _ => by simp [x_swl_ok] at h
set_option maxHeartbeats 1000000 in
theorem xs_switch (l : Launch) {M : xM} {pc len a b : Nat} {v : Value} {ls st : List Value} {g : xG} {σ : xS} {τ : xL} {Q : xQ} {k2 : Int} {ps2 : Array (Int × Int)} {raw : Instr} (hd : decode (x_by M.1) pc = .ok (raw, len)) (hi : x_oki (M.1, M.2.1, M.2.2.1, M.2.2.2.2.2.1) pc raw len (.lookupswitch k2 ps2) a b v = true)
    (h : x_stp M (.lookupswitch k2 ps2) (pc + len) a b v ls st g σ τ (fun pc ls st g σ τ => x_snd l M pc ls st g σ τ Q) Q (fun M' as g σ τ Q' => x_snd l M' 0 (x_loc as M'.2.2.1) [] g σ τ Q')) : x_snd l M pc ls st g σ τ Q := by
  intro hok p e R s m args below meth c fc D kc A Z n0 ad0 hK hex hA hscr hret ad H locs arr hW hS hag hl
  have go : ∀ {pc' : Nat} {ls' st' : List Value} {g' : xG} {σ' : xS} {τ' : xL}, x_snd l M pc' ls' st' g' σ' τ' Q → ∀ (ad' : Nat → Nat) (H' : Heap) (locs' : List Loc) (arr' : Array Slot), x_W kc D A ad' g' σ' τ' H' → va_S A s.heap H' locs' → x_ag M n0 ad0 ad' g' → x_lr ad' ls' arr' M.2.2.1 → W p l e R s m args below meth c H' locs' g'.2.2.1 g'.2.2.2 Z (F0 m pc' arr' (st'.map (x_cv ad'))) := fun k ad' H' locs' arr' w1 w2 w3 w4 => k hok p e R s m args below meth c fc D kc A Z n0 ad0 hK hex hA hscr hret ad' H' locs' arr' w1 w2 w3 w4
  obtain ⟨hx, hb, hml, hown, hts, hini, hr1, hr2, hr3, hr4⟩ := id fc
  rcases st with _ | ⟨(x | _ | _ | _ | _ | _ | _), st⟩ <;> first | exact False.elim h | skip
  simp only [x_stp] at h
  cases hsw : x_nth x_swt b with
  | none => rw [hsw] at h; exact h.elim
  | some sw =>
    rw [hsw] at h
    simp only [x_oki, hsw] at hi
    split at hi
    · rename_i dflt lo hi' offs
      obtain ⟨h1, h2⟩ := x_ok3 hi
      obtain ⟨h2, h3⟩ := x_ok3 h2
      have e1 := of_decide_eq_true h1
      have e2 := of_decide_eq_true h2
      by_cases hin : x.toInt < lo ∨ hi' < x.toInt
      · refine lv_tableOut hx hb hd hin e1 (go (x_sw_none (K := fun pc => x_snd l M pc ls st g σ τ Q) sw (fun i y u hy e => ?_) h) ad H locs arr hW hS hag hl)
        have h4 := (x_swt_at offs.toList lo sw h3 i)
        have h5 := h4.1 y u hy
        have h6 : i < sw.length := (List.getElem?_eq_some_iff.mp hy).1
        rw [h4.2.2] at h6
        rw [e] at h5
        omega
      · have g1 : ¬ x.toInt < lo := fun q => hin (Or.inl q)
        have g2 : ¬ hi' < x.toInt := fun q => hin (Or.inr q)
        have hlt : (x.toInt - lo).toNat < offs.toList.length := by omega
        obtain ⟨o, ho⟩ : ∃ o, offs.toList[(x.toInt - lo).toNat]? = some o := ⟨_, List.getElem?_eq_getElem hlt⟩
        obtain ⟨y, u, e3, e4⟩ := (x_swt_at offs.toList lo sw h3 (x.toInt - lo).toNat).2.1 o ho
        have e5 := (x_swt_at offs.toList lo sw h3 (x.toInt - lo).toNat).1 y u e3
        have hxy : y = x := Int32.toInt_inj.mp (by rw [e5]; omega)
        subst hxy
        refine lv_tableIn hx hb hd g1 g2 (by rw [← Array.getElem?_toList]; exact ho) e4 (go (x_sw_at (K := fun pc => x_snd l M pc ls st g σ τ Q) sw _ u e3 (fun i z w hi2 hz e => ?_) h) ad H locs arr hW hS hag hl)
        have e6 := (x_swt_at offs.toList lo sw h3 i).1 z w hz
        rw [e] at e6
        omega
    · rename_i dflt ps
      obtain ⟨h1, h2⟩ := x_ok3 hi
      obtain ⟨h2, h3⟩ := x_ok3 h2
      have e1 := of_decide_eq_true h1
      obtain ⟨u, e2, e3⟩ := x_swl_at (K := fun pc => x_snd l M pc ls st g σ τ Q) e1 ps.toList sw h3 h
      exact lv_lookup hx hb hd h2 rfl e2 (go e3 ad H locs arr hW hS hag hl)
    · cases hi
set_option maxHeartbeats 1000000 in
theorem xs_getfield (l : Launch) {M : xM} {pc len a b : Nat} {v : Value} {ls st : List Value} {g : xG} {σ : xS} {τ : xL} {Q : xQ} {k2 : Nat} {raw : Instr} (hd : decode (x_by M.1) pc = .ok (raw, len)) (hi : x_oki (M.1, M.2.1, M.2.2.1, M.2.2.2.2.2.1) pc raw len (.getfield k2) a b v = true)
    (h : x_stp M (.getfield k2) (pc + len) a b v ls st g σ τ (fun pc ls st g σ τ => x_snd l M pc ls st g σ τ Q) Q (fun M' as g σ τ Q' => x_snd l M' 0 (x_loc as M'.2.2.1) [] g σ τ Q')) : x_snd l M pc ls st g σ τ Q := by
  intro hok p e R s m args below meth c fc D kc A Z n0 ad0 hK hex hA hscr hret ad H locs arr hW hS hag hl
  have go : ∀ {pc' : Nat} {ls' st' : List Value} {g' : xG} {σ' : xS} {τ' : xL}, x_snd l M pc' ls' st' g' σ' τ' Q → ∀ (ad' : Nat → Nat) (H' : Heap) (locs' : List Loc) (arr' : Array Slot), x_W kc D A ad' g' σ' τ' H' → va_S A s.heap H' locs' → x_ag M n0 ad0 ad' g' → x_lr ad' ls' arr' M.2.2.1 → W p l e R s m args below meth c H' locs' g'.2.2.1 g'.2.2.2 Z (F0 m pc' arr' (st'.map (x_cv ad'))) := fun k ad' H' locs' arr' w1 w2 w3 w4 => k hok p e R s m args below meth c fc D kc A Z n0 ad0 hK hex hA hscr hret ad' H' locs' arr' w1 w2 w3 w4
  obtain ⟨hx, hb, hml, hown, hts, hini, hr1, hr2, hr3, hr4⟩ := id fc
  rcases st with _ | ⟨(_ | _ | _ | _ | _ | q | _), st⟩ <;> first | exact False.elim h | skip
  simp only [x_stp] at h
  cases hq : x_nth g.1 q with
  | none => rw [hq] at h; exact h.elim
  | some s2 =>
    obtain ⟨kd, n⟩ := s2
    rw [hq] at h
    obtain ⟨hc, h9⟩ := x_bif_t h
    clear h
    obtain ⟨hc1, hc2⟩ := x_ok3 hc
    have e0 := Nat.eq_of_beq_eq_true hc1
    subst e0
    have hbn : b < n := Nat.le_of_ble_eq_true hc2
    simp only [x_oki] at hi
    split at hi
    · obtain ⟨h1, j2⟩ := x_ok3 hi
      obtain ⟨h2, j3⟩ := x_ok3 j2
      obtain ⟨h3, j4⟩ := x_ok3 j3
      obtain ⟨h4, h5⟩ := x_ok3 j4
      have e1 := Nat.eq_of_beq_eq_true h1
      subst e1
      have hk8 : kd < 8 := Nat.le_of_ble_eq_true h2
      have hbN : b < x_clN kd := Nat.le_of_ble_eq_true h3
      have htag := Nat.eq_of_beq_eq_true h4
      have hlink := hts _ (x_has_in h5 rfl)
      obtain ⟨C, T, N, ty, c1, c2, c3, c4, c5, c6, c7, c8, c9, -, -⟩ := x_class kd hk8
      rw [c7] at hbN
      rw [c6] at hlink
      have hat := x_at_obj (kc := kc) (ad := ad) (ρ := g.2.1) (σ := σ) (τ := τ) hq (show kd < 16 by omega)
      refine va_get (v := x_val ad g.2.1 σ τ q kd b) hx hb hts c3 hown hK hW.1 q hat c1 b hbN hlink (fun x hx2 => ?_) (x_fs_at hbn) hd ?_
      · rw [c8 b hbN] at hx2
        exact hx2
      · cases v with
        | int x =>
          have e : x_val ad g.2.1 σ τ q kd b = .int (σ q b) := by unfold x_val; rw [htag]; rfl
          rw [e]
          exact go h9 ad H locs arr hW hS hag hl
        | long x =>
          have e : x_val ad g.2.1 σ τ q kd b = .long (τ q b) := by unfold x_val; rw [htag]; rfl
          rw [e]
          exact go h9 ad H locs arr hW hS hag hl
        | _ =>
          cases hr : g.2.1 q b with
          | none => simp only [hr] at h9
          | some r =>
            simp only [hr] at h9
            have e : x_val ad g.2.1 σ τ q kd b = .ref (ad r) := by unfold x_val; rw [htag, hr]; rfl
            rw [e]
            exact go h9 ad H locs arr hW hS hag hl
    · cases hi
set_option maxHeartbeats 1000000 in
theorem xs_putfield (l : Launch) {M : xM} {pc len a b : Nat} {v : Value} {ls st : List Value} {g : xG} {σ : xS} {τ : xL} {Q : xQ} {k2 : Nat} {raw : Instr} (hd : decode (x_by M.1) pc = .ok (raw, len)) (hi : x_oki (M.1, M.2.1, M.2.2.1, M.2.2.2.2.2.1) pc raw len (.putfield k2) a b v = true)
    (h : x_stp M (.putfield k2) (pc + len) a b v ls st g σ τ (fun pc ls st g σ τ => x_snd l M pc ls st g σ τ Q) Q (fun M' as g σ τ Q' => x_snd l M' 0 (x_loc as M'.2.2.1) [] g σ τ Q')) : x_snd l M pc ls st g σ τ Q := by
  intro hok p e R s m args below meth c fc D kc A Z n0 ad0 hK hex hA hscr hret ad H locs arr hW hS hag hl
  have go : ∀ {pc' : Nat} {ls' st' : List Value} {g' : xG} {σ' : xS} {τ' : xL}, x_snd l M pc' ls' st' g' σ' τ' Q → ∀ (ad' : Nat → Nat) (H' : Heap) (locs' : List Loc) (arr' : Array Slot), x_W kc D A ad' g' σ' τ' H' → va_S A s.heap H' locs' → x_ag M n0 ad0 ad' g' → x_lr ad' ls' arr' M.2.2.1 → W p l e R s m args below meth c H' locs' g'.2.2.1 g'.2.2.2 Z (F0 m pc' arr' (st'.map (x_cv ad'))) := fun k ad' H' locs' arr' w1 w2 w3 w4 => k hok p e R s m args below meth c fc D kc A Z n0 ad0 hK hex hA hscr hret ad' H' locs' arr' w1 w2 w3 w4
  obtain ⟨hx, hb, hml, hown, hts, hini, hr1, hr2, hr3, hr4⟩ := id fc
  rcases st with _ | ⟨w, st⟩
  · exact False.elim h
  rcases st with _ | ⟨(_ | _ | _ | _ | _ | q | _), st⟩ <;> first | exact False.elim h | skip
  simp only [x_stp] at h
  cases hq : x_nth g.1 q with
  | none => rw [hq] at h; exact h.elim
  | some s2 =>
    obtain ⟨kd, n⟩ := s2
    rw [hq] at h
    obtain ⟨hc, h9⟩ := x_bif_t h
    clear h
    obtain ⟨hc1, hc2⟩ := x_ok3 hc
    have e0 := Nat.eq_of_beq_eq_true hc1
    subst e0
    have hbn : b < n := Nat.le_of_ble_eq_true hc2
    simp only [x_oki] at hi
    split at hi
    · obtain ⟨h1, j2⟩ := x_ok3 hi
      obtain ⟨h2, j3⟩ := x_ok3 j2
      obtain ⟨h3, j4⟩ := x_ok3 j3
      obtain ⟨h4, j5⟩ := x_ok3 j4
      obtain ⟨h5, h6⟩ := x_ok3 j5
      have e1 := Nat.eq_of_beq_eq_true h1
      subst e1
      have hk8 : kd < 8 := Nat.le_of_ble_eq_true h2
      have hbN : b < x_clN kd := Nat.le_of_ble_eq_true h3
      have htag := Nat.eq_of_beq_eq_true h4
      have hlink := hts _ (x_has_in h5 rfl)
      obtain ⟨C, T, N, ty, c1, c2, c3, c4, c5, c6, c7, c8, c9, -, -⟩ := x_class kd hk8
      rw [c7] at hbN
      rw [c6] at hlink h6
      have hat := x_at_obj (kc := kc) (ad := ad) (ρ := g.2.1) (σ := σ) (τ := τ) hq (show kd < 16 by omega)
      have hsame : ∀ x, s.fieldFound? (T b).1 (T b).2.1 (T b).2.2.1 = some x → s.fieldFound? (x_cn kd) (T b).2.1 (T b).2.2.1 = some x := fun x hx2 => by
        rw [c8 b hbN] at hx2
        exact hx2
      -- the step, for a value that fits
      have stp : ∀ (w' : Value), narrow (ty b) w' = w' → fits (ty b) w' = true → (∀ (H1 : Heap) (locs1 : List Loc), va_P D x_cl ((x_wd kc ad g.1 g.2.1 σ τ).set q (ad q, .inr (kd, ((List.range n).map (x_val ad g.2.1 σ τ q kd)).set b w'))) H1 → va_D A ((x_wd kc ad g.1 g.2.1 σ τ).set q (ad q, .inr (kd, ((List.range n).map (x_val ad g.2.1 σ τ q kd)).set b w'))) → va_S A s.heap H1 locs1 → W p l e R s m args below meth c H1 locs1 g.2.2.1 g.2.2.2 Z (F0 m (pc + 3) arr (st.map (x_cv ad)))) → W p l e R s m args below meth c H locs g.2.2.1 g.2.2.2 Z (F0 m pc arr (w' :: .ref (ad q) :: st.map (x_cv ad))) := by
        intro w' hn hf kk
        cases hfin : (T b).2.2.2 with
        | false => exact va_put hx hb hts c3 ty c4 c5 hown hK hW.1 hW.2.1 hS q hat c1 b hbN hlink hsame hfin (c4 b hbN) hn hf (by simpa using hbn) hd kk
        | true =>
          rw [hfin] at h6
          simp only [Bool.not_true, Bool.false_or] at h6
          obtain ⟨h7, h8⟩ := x_ok3 h6
          have e7 := of_decide_eq_true h7
          have e8 := Nat.eq_of_beq_eq_true h8
          exact va_putF hx hb hts c3 ty c4 c5 hown hK hW.1 hW.2.1 hS q hat c1 b hbN hlink hsame hfin (hini e7) (by rw [c8 b hbN, e8]) (c4 b hbN) hn hf (by simpa using hbn) hd kk
      have c9b := c9 b hbN
      cases v with
      | int x =>
        cases w <;> first | exact False.elim h9 | skip
        rename_i x
        have ety : ty b = .int := c9b.1 htag
        refine stp (.int x) (by rw [ety]; rfl) (by rw [ety]; rfl) (fun H1 locs1 hP1 hD1 hS1 => ?_)
        have ew := x_wd_upd (kc := kc) (ad := ad) (ρ := g.2.1) (ρ' := g.2.1) (σ := σ) (σ' := x_row σ q (upd (σ q) b x)) (τ := τ) (τ' := τ) hq (fun _ _ => rfl) (fun k hk => x_row_ne hk) (fun _ _ => rfl)
        have ec : x_cell kc ad g.2.1 (x_row σ q (upd (σ q) b x)) τ q (kd, n) = .inr (kd, ((List.range n).map (x_val ad g.2.1 σ τ q kd)).set b (.int x)) := by
          rw [← x_fs_set (ρ' := g.2.1) (σ' := x_row σ q (upd (σ q) b x)) (τ' := τ)]
          · simp [x_cell, show kd < 16 by omega]
          · unfold x_val
            rw [htag]
            simp [x_tag, x_row_eq, upd]
          · intro k hk
            unfold x_val
            simp [x_row_eq, upd, hk]
        rw [ec] at ew
        rw [← ew] at hP1 hD1
        exact go h9 ad H1 locs1 arr ⟨hP1, hD1, hW.2.2⟩ hS1 hag hl
      | long x =>
        cases w <;> first | exact False.elim h9 | skip
        rename_i x
        have ety : ty b = .long := c9b.2.1 htag
        refine stp (.long x) (by rw [ety]; rfl) (by rw [ety]; rfl) (fun H1 locs1 hP1 hD1 hS1 => ?_)
        have ew := x_wd_upd (kc := kc) (ad := ad) (ρ := g.2.1) (ρ' := g.2.1) (σ := σ) (σ' := σ) (τ := τ) (τ' := x_row τ q (vp_updL (τ q) b x)) hq (fun _ _ => rfl) (fun _ _ => rfl) (fun k hk => x_row_ne hk)
        have ec : x_cell kc ad g.2.1 σ (x_row τ q (vp_updL (τ q) b x)) q (kd, n) = .inr (kd, ((List.range n).map (x_val ad g.2.1 σ τ q kd)).set b (.long x)) := by
          rw [← x_fs_set (ρ' := g.2.1) (σ' := σ) (τ' := x_row τ q (vp_updL (τ q) b x))]
          · simp [x_cell, show kd < 16 by omega]
          · unfold x_val
            rw [htag]
            simp [x_tag, x_row_eq, vp_updL]
          · intro k hk
            unfold x_val
            simp [x_row_eq, vp_updL, hk]
        rw [ec] at ew
        rw [← ew] at hP1 hD1
        exact go h9 ad H1 locs1 arr ⟨hP1, hD1, hW.2.2⟩ hS1 hag hl
      | retAddr x =>
        cases w <;> first | exact False.elim h9 | skip
        rename_i r
        obtain ⟨hr, h8⟩ := x_bif_t h9
        clear h9
        have hrl : r < g.1.length := Nat.le_of_ble_eq_true hr
        have ety := x_isr_ok (c9b.2.2.1 htag) (ad r)
        refine stp (.ref (ad r)) ety.1 ety.2.1 (fun H1 locs1 hP1 hD1 hS1 => ?_)
        have ew := x_wd_upd (kc := kc) (ad := ad) (ρ := g.2.1) (ρ' := x_wr g.2.1 q b r) (σ := σ) (σ' := σ) (τ := τ) (τ' := τ) hq (fun k hk => x_wr_ne hk) (fun _ _ => rfl) (fun _ _ => rfl)
        have er : ∀ k, x_wr g.2.1 q b r q k = if k = b then some r else g.2.1 q k := by
          intro k
          have e1 : Nat.beq q q = true := Nat.beq_refl q
          by_cases hk : k = b
          · subst hk
            simp [x_wr]
          · have e2 : Nat.beq k b = false := by
              cases hb2 : Nat.beq k b
              · rfl
              · exact absurd (Nat.eq_of_beq_eq_true hb2) hk
            simp [x_wr, e2, hk]
        have ec : x_cell kc ad (x_wr g.2.1 q b r) σ τ q (kd, n) = .inr (kd, ((List.range n).map (x_val ad g.2.1 σ τ q kd)).set b (.ref (ad r))) := by
          rw [← x_fs_set (ρ' := x_wr g.2.1 q b r) (σ' := σ) (τ' := τ)]
          · simp [x_cell, show kd < 16 by omega]
          · unfold x_val
            rw [htag, er]
            simp [x_tag, va_rf]
          · intro k hk
            unfold x_val
            rw [er]
            simp [hk]
        rw [ec] at ew
        rw [← ew] at hP1 hD1
        refine go h8 ad H1 locs1 arr ⟨hP1, hD1, fun q' j r' hr' => ?_⟩ hS1 hag hl
        by_cases hq' : q' = q
        · subst hq'
          simp only [er] at hr'
          by_cases hj : j = b
          · rw [if_pos hj] at hr'
            cases hr'
            exact hrl
          · rw [if_neg hj] at hr'
            exact hW.2.2 _ _ _ hr'
        · simp only [x_wr_ne hq'] at hr'
          exact hW.2.2 _ _ _ hr'
      | _ => cases w <;> exact False.elim h9
    · cases hi
set_option maxHeartbeats 1000000 in
theorem xs_iaload (l : Launch) {M : xM} {pc len a b : Nat} {v : Value} {ls st : List Value} {g : xG} {σ : xS} {τ : xL} {Q : xQ} {raw : Instr} (hd : decode (x_by M.1) pc = .ok (raw, len)) (hi : x_oki (M.1, M.2.1, M.2.2.1, M.2.2.2.2.2.1) pc raw len .iaload a b v = true)
    (h : x_stp M .iaload (pc + len) a b v ls st g σ τ (fun pc ls st g σ τ => x_snd l M pc ls st g σ τ Q) Q (fun M' as g σ τ Q' => x_snd l M' 0 (x_loc as M'.2.2.1) [] g σ τ Q')) : x_snd l M pc ls st g σ τ Q := by
  intro hok p e R s m args below meth c fc D kc A Z n0 ad0 hK hex hA hscr hret ad H locs arr hW hS hag hl
  have go : ∀ {pc' : Nat} {ls' st' : List Value} {g' : xG} {σ' : xS} {τ' : xL}, x_snd l M pc' ls' st' g' σ' τ' Q → ∀ (ad' : Nat → Nat) (H' : Heap) (locs' : List Loc) (arr' : Array Slot), x_W kc D A ad' g' σ' τ' H' → va_S A s.heap H' locs' → x_ag M n0 ad0 ad' g' → x_lr ad' ls' arr' M.2.2.1 → W p l e R s m args below meth c H' locs' g'.2.2.1 g'.2.2.2 Z (F0 m pc' arr' (st'.map (x_cv ad'))) := fun k ad' H' locs' arr' w1 w2 w3 w4 => k hok p e R s m args below meth c fc D kc A Z n0 ad0 hK hex hA hscr hret ad' H' locs' arr' w1 w2 w3 w4
  obtain ⟨hx, hb, hml, hown, hts, hini, hr1, hr2, hr3, hr4⟩ := id fc
  obtain ⟨rfl, rfl⟩ := x_ok1 (i := .iaload) hi
  rcases st with _ | ⟨(j | _ | _ | _ | _ | _ | _), st⟩ <;> first | exact False.elim h | skip
  rcases st with _ | ⟨(_ | _ | _ | _ | _ | q | q), st⟩ <;> first | exact False.elim h | skip
  · obtain ⟨n, h1, h2, h3⟩ := h
    exact va_iald hx hb hK hW.1 q 0 (x_at_arr h1 (by omega) (by omega)) rfl h2 hd (go h3 ad H locs arr hW hS hag hl)
  · obtain ⟨⟨h0, h1, h2⟩, h3⟩ := h
    obtain ⟨g1, g2, g3⟩ := hscr h0
    subst h1
    exact va_sld hx hb g1 g2 g3 hS h2 hd (go h3 ad H locs arr hW hS hag hl)
set_option maxHeartbeats 1000000 in
theorem xs_baload (l : Launch) {M : xM} {pc len a b : Nat} {v : Value} {ls st : List Value} {g : xG} {σ : xS} {τ : xL} {Q : xQ} {raw : Instr} (hd : decode (x_by M.1) pc = .ok (raw, len)) (hi : x_oki (M.1, M.2.1, M.2.2.1, M.2.2.2.2.2.1) pc raw len .baload a b v = true)
    (h : x_stp M .baload (pc + len) a b v ls st g σ τ (fun pc ls st g σ τ => x_snd l M pc ls st g σ τ Q) Q (fun M' as g σ τ Q' => x_snd l M' 0 (x_loc as M'.2.2.1) [] g σ τ Q')) : x_snd l M pc ls st g σ τ Q := by
  intro hok p e R s m args below meth c fc D kc A Z n0 ad0 hK hex hA hscr hret ad H locs arr hW hS hag hl
  have go : ∀ {pc' : Nat} {ls' st' : List Value} {g' : xG} {σ' : xS} {τ' : xL}, x_snd l M pc' ls' st' g' σ' τ' Q → ∀ (ad' : Nat → Nat) (H' : Heap) (locs' : List Loc) (arr' : Array Slot), x_W kc D A ad' g' σ' τ' H' → va_S A s.heap H' locs' → x_ag M n0 ad0 ad' g' → x_lr ad' ls' arr' M.2.2.1 → W p l e R s m args below meth c H' locs' g'.2.2.1 g'.2.2.2 Z (F0 m pc' arr' (st'.map (x_cv ad'))) := fun k ad' H' locs' arr' w1 w2 w3 w4 => k hok p e R s m args below meth c fc D kc A Z n0 ad0 hK hex hA hscr hret ad' H' locs' arr' w1 w2 w3 w4
  obtain ⟨hx, hb, hml, hown, hts, hini, hr1, hr2, hr3, hr4⟩ := id fc
  obtain ⟨rfl, rfl⟩ := x_ok1 (i := .baload) hi
  rcases st with _ | ⟨(j | _ | _ | _ | _ | _ | _), st⟩ <;> first | exact False.elim h | skip
  rcases st with _ | ⟨(_ | _ | _ | _ | _ | q | _), st⟩ <;> first | exact False.elim h | skip
  obtain ⟨n, h1, h2, h3⟩ := h
  exact va_zald hx hb hK hW.1 q 1 (x_at_arr h1 (by omega) (by omega)) rfl h2 hd (go h3 ad H locs arr hW hS hag hl)
set_option maxHeartbeats 1000000 in
theorem xs_iastore (l : Launch) {M : xM} {pc len a b : Nat} {v : Value} {ls st : List Value} {g : xG} {σ : xS} {τ : xL} {Q : xQ} {raw : Instr} (hd : decode (x_by M.1) pc = .ok (raw, len)) (hi : x_oki (M.1, M.2.1, M.2.2.1, M.2.2.2.2.2.1) pc raw len .iastore a b v = true)
    (h : x_stp M .iastore (pc + len) a b v ls st g σ τ (fun pc ls st g σ τ => x_snd l M pc ls st g σ τ Q) Q (fun M' as g σ τ Q' => x_snd l M' 0 (x_loc as M'.2.2.1) [] g σ τ Q')) : x_snd l M pc ls st g σ τ Q := by
  intro hok p e R s m args below meth c fc D kc A Z n0 ad0 hK hex hA hscr hret ad H locs arr hW hS hag hl
  have go : ∀ {pc' : Nat} {ls' st' : List Value} {g' : xG} {σ' : xS} {τ' : xL}, x_snd l M pc' ls' st' g' σ' τ' Q → ∀ (ad' : Nat → Nat) (H' : Heap) (locs' : List Loc) (arr' : Array Slot), x_W kc D A ad' g' σ' τ' H' → va_S A s.heap H' locs' → x_ag M n0 ad0 ad' g' → x_lr ad' ls' arr' M.2.2.1 → W p l e R s m args below meth c H' locs' g'.2.2.1 g'.2.2.2 Z (F0 m pc' arr' (st'.map (x_cv ad'))) := fun k ad' H' locs' arr' w1 w2 w3 w4 => k hok p e R s m args below meth c fc D kc A Z n0 ad0 hK hex hA hscr hret ad' H' locs' arr' w1 w2 w3 w4
  obtain ⟨hx, hb, hml, hown, hts, hini, hr1, hr2, hr3, hr4⟩ := id fc
  obtain ⟨rfl, rfl⟩ := x_ok1 (i := .iastore) hi
  rcases st with _ | ⟨(x | _ | _ | _ | _ | _ | _), st⟩ <;> first | exact False.elim h | skip
  rcases st with _ | ⟨(j | _ | _ | _ | _ | _ | _), st⟩ <;> first | exact False.elim h | skip
  rcases st with _ | ⟨(_ | _ | _ | _ | _ | q | _), st⟩ <;> first | exact False.elim h | skip
  obtain ⟨n, h1, h2, h3⟩ := h
  have ew := x_wd_upd (kc := kc) (ad := ad) (ρ := g.2.1) (ρ' := g.2.1) (σ := σ) (σ' := x_row σ q (upd (σ q) j.toNatClampNeg x)) (τ := τ) (τ' := τ) h1 (fun _ _ => rfl) (fun k hk => x_row_ne hk) (fun _ _ => rfl)
  have ec : x_cell kc ad g.2.1 (x_row σ q (upd (σ q) j.toNatClampNeg x)) τ q (16, n) = .inl (kc 16, n, .inl (upd (σ q) j.toNatClampNeg x)) := by
    simp [x_cell, x_row_eq]
  rw [ec] at ew
  refine va_iast hx hb hK hW.1 hW.2.1 hS q 0 (x_at_arr h1 (by omega) (by omega)) rfl h2 hd (fun H1 locs1 hP1 hD1 hS1 => ?_)
  rw [← ew] at hP1 hD1
  exact go h3 ad H1 locs1 arr ⟨hP1, hD1, hW.2.2⟩ hS1 hag hl
set_option maxHeartbeats 1000000 in
theorem xs_bastore (l : Launch) {M : xM} {pc len a b : Nat} {v : Value} {ls st : List Value} {g : xG} {σ : xS} {τ : xL} {Q : xQ} {raw : Instr} (hd : decode (x_by M.1) pc = .ok (raw, len)) (hi : x_oki (M.1, M.2.1, M.2.2.1, M.2.2.2.2.2.1) pc raw len .bastore a b v = true)
    (h : x_stp M .bastore (pc + len) a b v ls st g σ τ (fun pc ls st g σ τ => x_snd l M pc ls st g σ τ Q) Q (fun M' as g σ τ Q' => x_snd l M' 0 (x_loc as M'.2.2.1) [] g σ τ Q')) : x_snd l M pc ls st g σ τ Q := by
  intro hok p e R s m args below meth c fc D kc A Z n0 ad0 hK hex hA hscr hret ad H locs arr hW hS hag hl
  have go : ∀ {pc' : Nat} {ls' st' : List Value} {g' : xG} {σ' : xS} {τ' : xL}, x_snd l M pc' ls' st' g' σ' τ' Q → ∀ (ad' : Nat → Nat) (H' : Heap) (locs' : List Loc) (arr' : Array Slot), x_W kc D A ad' g' σ' τ' H' → va_S A s.heap H' locs' → x_ag M n0 ad0 ad' g' → x_lr ad' ls' arr' M.2.2.1 → W p l e R s m args below meth c H' locs' g'.2.2.1 g'.2.2.2 Z (F0 m pc' arr' (st'.map (x_cv ad'))) := fun k ad' H' locs' arr' w1 w2 w3 w4 => k hok p e R s m args below meth c fc D kc A Z n0 ad0 hK hex hA hscr hret ad' H' locs' arr' w1 w2 w3 w4
  obtain ⟨hx, hb, hml, hown, hts, hini, hr1, hr2, hr3, hr4⟩ := id fc
  obtain ⟨rfl, rfl⟩ := x_ok1 (i := .bastore) hi
  rcases st with _ | ⟨(x | _ | _ | _ | _ | _ | _), st⟩ <;> first | exact False.elim h | skip
  rcases st with _ | ⟨(j | _ | _ | _ | _ | _ | _), st⟩ <;> first | exact False.elim h | skip
  rcases st with _ | ⟨(_ | _ | _ | _ | _ | q | _), st⟩ <;> first | exact False.elim h | skip
  obtain ⟨n, h1, h2, h4, h3⟩ := h
  have ew := x_wd_upd (kc := kc) (ad := ad) (ρ := g.2.1) (ρ' := g.2.1) (σ := σ) (σ' := x_row σ q (upd (σ q) j.toNatClampNeg x)) (τ := τ) (τ' := τ) h1 (fun _ _ => rfl) (fun k hk => x_row_ne hk) (fun _ _ => rfl)
  have ec : x_cell kc ad g.2.1 (x_row σ q (upd (σ q) j.toNatClampNeg x)) τ q (17, n) = .inl (kc 17, n, .inl (upd (σ q) j.toNatClampNeg x)) := by
    simp [x_cell, x_row_eq]
  rw [ec] at ew
  refine va_zast hx hb hK hW.1 hW.2.1 hS q 1 (x_at_arr h1 (by omega) (by omega)) rfl h2 hd (fun H1 locs1 hP1 hD1 hS1 => ?_)
  rw [x_nar01 h4, ← ew] at hP1 hD1
  exact go h3 ad H1 locs1 arr ⟨hP1, hD1, hW.2.2⟩ hS1 hag hl
set_option maxHeartbeats 1000000 in
theorem xs_aaload (l : Launch) {M : xM} {pc len a b : Nat} {v : Value} {ls st : List Value} {g : xG} {σ : xS} {τ : xL} {Q : xQ} {raw : Instr} (hd : decode (x_by M.1) pc = .ok (raw, len)) (hi : x_oki (M.1, M.2.1, M.2.2.1, M.2.2.2.2.2.1) pc raw len .aaload a b v = true)
    (h : x_stp M .aaload (pc + len) a b v ls st g σ τ (fun pc ls st g σ τ => x_snd l M pc ls st g σ τ Q) Q (fun M' as g σ τ Q' => x_snd l M' 0 (x_loc as M'.2.2.1) [] g σ τ Q')) : x_snd l M pc ls st g σ τ Q := by
  intro hok p e R s m args below meth c fc D kc A Z n0 ad0 hK hex hA hscr hret ad H locs arr hW hS hag hl
  have go : ∀ {pc' : Nat} {ls' st' : List Value} {g' : xG} {σ' : xS} {τ' : xL}, x_snd l M pc' ls' st' g' σ' τ' Q → ∀ (ad' : Nat → Nat) (H' : Heap) (locs' : List Loc) (arr' : Array Slot), x_W kc D A ad' g' σ' τ' H' → va_S A s.heap H' locs' → x_ag M n0 ad0 ad' g' → x_lr ad' ls' arr' M.2.2.1 → W p l e R s m args below meth c H' locs' g'.2.2.1 g'.2.2.2 Z (F0 m pc' arr' (st'.map (x_cv ad'))) := fun k ad' H' locs' arr' w1 w2 w3 w4 => k hok p e R s m args below meth c fc D kc A Z n0 ad0 hK hex hA hscr hret ad' H' locs' arr' w1 w2 w3 w4
  obtain ⟨hx, hb, hml, hown, hts, hini, hr1, hr2, hr3, hr4⟩ := id fc
  obtain ⟨rfl, rfl⟩ := x_ok1 (i := .aaload) hi
  rcases st with _ | ⟨(j | _ | _ | _ | _ | _ | _), st⟩ <;> first | exact False.elim h | skip
  rcases st with _ | ⟨(_ | _ | _ | _ | _ | q | _), st⟩ <;> first | exact False.elim h | skip
  obtain ⟨kd, n, r, h1, h2, h3, h4, h5⟩ := h
  have hlt : j.toNatClampNeg < n := Nat.not_le.mp fun q => h3 (Or.inr q)
  have hat := x_at_ref (kc := kc) (ad := ad) (ρ := g.2.1) (σ := σ) (τ := τ) h1 (by rcases h2 with rfl | rfl <;> omega)
  have hg := go h5 ad H locs arr hW hS hag hl
  have ty : ∃ ty : FieldType, ty.isReference = true ∧ ArrOfT s (kc kd) ty := by
    rcases h2 with rfl | rfl
    · exact ⟨.array .int, rfl, (hK.2 2 (kc 18, .array .int) rfl).1⟩
    · exact ⟨.object "SnowTracks$Pass", rfl, (hK.2 3 (kc 19, .object "SnowTracks$Pass") rfl).1⟩
  obtain ⟨ty, t1, t2⟩ := ty
  exact W.aald (v := .ref (ad r)) (ty := ty) hx hb (hW.1 q _ hat) (t2 n (fun i => va_rf ((g.2.1 q i).map ad))) t1 (fun q => by cases q) (by show ¬ (j < 0 ∨ (arrV _ _ _).slots.size ≤ _); rw [arrV_size]; exact h3) (by show (arrV _ _ _).slots[_]? = _; rw [arrV_read _ _ hlt]; show some (va_rf ((g.2.1 q j.toNatClampNeg).map ad)) = _; rw [h4]; rfl) rfl rfl hd hg
set_option maxHeartbeats 1000000 in
theorem xs_aastore (l : Launch) {M : xM} {pc len a b : Nat} {v : Value} {ls st : List Value} {g : xG} {σ : xS} {τ : xL} {Q : xQ} {raw : Instr} (hd : decode (x_by M.1) pc = .ok (raw, len)) (hi : x_oki (M.1, M.2.1, M.2.2.1, M.2.2.2.2.2.1) pc raw len .aastore a b v = true)
    (h : x_stp M .aastore (pc + len) a b v ls st g σ τ (fun pc ls st g σ τ => x_snd l M pc ls st g σ τ Q) Q (fun M' as g σ τ Q' => x_snd l M' 0 (x_loc as M'.2.2.1) [] g σ τ Q')) : x_snd l M pc ls st g σ τ Q := by
  intro hok p e R s m args below meth c fc D kc A Z n0 ad0 hK hex hA hscr hret ad H locs arr hW hS hag hl
  have go : ∀ {pc' : Nat} {ls' st' : List Value} {g' : xG} {σ' : xS} {τ' : xL}, x_snd l M pc' ls' st' g' σ' τ' Q → ∀ (ad' : Nat → Nat) (H' : Heap) (locs' : List Loc) (arr' : Array Slot), x_W kc D A ad' g' σ' τ' H' → va_S A s.heap H' locs' → x_ag M n0 ad0 ad' g' → x_lr ad' ls' arr' M.2.2.1 → W p l e R s m args below meth c H' locs' g'.2.2.1 g'.2.2.2 Z (F0 m pc' arr' (st'.map (x_cv ad'))) := fun k ad' H' locs' arr' w1 w2 w3 w4 => k hok p e R s m args below meth c fc D kc A Z n0 ad0 hK hex hA hscr hret ad' H' locs' arr' w1 w2 w3 w4
  obtain ⟨hx, hb, hml, hown, hts, hini, hr1, hr2, hr3, hr4⟩ := id fc
  obtain ⟨rfl, rfl⟩ := x_ok1 (i := .aastore) hi
  rcases st with _ | ⟨(_ | _ | _ | _ | _ | r | _), st⟩ <;> first | exact False.elim h | skip
  rcases st with _ | ⟨(j | _ | _ | _ | _ | _ | _), st⟩ <;> first | exact False.elim h | skip
  rcases st with _ | ⟨(_ | _ | _ | _ | _ | q | _), st⟩ <;> first | exact False.elim h | skip
  obtain ⟨n, n2, h1, h2, h3, h4⟩ := h
  have ew := x_wd_upd (kc := kc) (ad := ad) (ρ := g.2.1) (ρ' := x_wr g.2.1 q j.toNatClampNeg r) (σ := σ) (σ' := σ) (τ := τ) (τ' := τ) h1 (fun k hk => x_wr_ne hk) (fun _ _ => rfl) (fun _ _ => rfl)
  have er : ∀ k, x_wr g.2.1 q j.toNatClampNeg r q k = if k = j.toNatClampNeg then some r else g.2.1 q k := by
    intro k
    have e1 : Nat.beq q q = true := Nat.beq_refl q
    by_cases hk : k = j.toNatClampNeg
    · subst hk
      simp [x_wr]
    · have e2 : Nat.beq k j.toNatClampNeg = false := by
        cases hb2 : Nat.beq k j.toNatClampNeg
        · rfl
        · exact absurd (Nat.eq_of_beq_eq_true hb2) hk
      simp [x_wr, e2, hk]
  have ec : x_cell kc ad (x_wr g.2.1 q j.toNatClampNeg r) σ τ q (19, n) = .inl (kc 19, n, .inr (.inr (.inr (.inr (va_up (fun i => (g.2.1 q i).map ad) j.toNatClampNeg (some (ad r))))))) := by
    have : (fun i => (x_wr g.2.1 q j.toNatClampNeg r q i).map ad) = va_up (fun i => (g.2.1 q i).map ad) j.toNatClampNeg (some (ad r)) := by
      funext k
      rw [er]
      by_cases hk : k = j.toNatClampNeg
      · simp [va_up, hk]
      · simp [va_up, hk]
    simp [x_cell, this]
  rw [ec] at ew
  refine va_astq hx hb hK hW.1 hW.2.1 hS q 3 r 2 (r := ("SnowTracks$Pass", x_F2, 8)) (x_at_ref h1 (by omega)) rfl (x_at_obj h3 (by omega)) rfl h2 hd (fun H1 locs1 hP1 hD1 hS1 => ?_)
  rw [← ew] at hP1 hD1
  refine go h4 ad H1 locs1 arr ⟨hP1, hD1, fun q' j' r' hr' => ?_⟩ hS1 hag hl
  by_cases hq' : q' = q
  · subst hq'
    simp only [er] at hr'
    by_cases hj : j' = j.toNatClampNeg
    · rw [if_pos hj] at hr'
      cases hr'
      exact x_nth_lt h3
    · rw [if_neg hj] at hr'
      exact hW.2.2 _ _ _ hr'
  · simp only [x_wr_ne hq'] at hr'
    exact hW.2.2 _ _ _ hr'
set_option maxHeartbeats 1000000 in
theorem xs_arraylength (l : Launch) {M : xM} {pc len a b : Nat} {v : Value} {ls st : List Value} {g : xG} {σ : xS} {τ : xL} {Q : xQ} {raw : Instr} (hd : decode (x_by M.1) pc = .ok (raw, len)) (hi : x_oki (M.1, M.2.1, M.2.2.1, M.2.2.2.2.2.1) pc raw len .arraylength a b v = true)
    (h : x_stp M .arraylength (pc + len) a b v ls st g σ τ (fun pc ls st g σ τ => x_snd l M pc ls st g σ τ Q) Q (fun M' as g σ τ Q' => x_snd l M' 0 (x_loc as M'.2.2.1) [] g σ τ Q')) : x_snd l M pc ls st g σ τ Q := by
  intro hok p e R s m args below meth c fc D kc A Z n0 ad0 hK hex hA hscr hret ad H locs arr hW hS hag hl
  have go : ∀ {pc' : Nat} {ls' st' : List Value} {g' : xG} {σ' : xS} {τ' : xL}, x_snd l M pc' ls' st' g' σ' τ' Q → ∀ (ad' : Nat → Nat) (H' : Heap) (locs' : List Loc) (arr' : Array Slot), x_W kc D A ad' g' σ' τ' H' → va_S A s.heap H' locs' → x_ag M n0 ad0 ad' g' → x_lr ad' ls' arr' M.2.2.1 → W p l e R s m args below meth c H' locs' g'.2.2.1 g'.2.2.2 Z (F0 m pc' arr' (st'.map (x_cv ad'))) := fun k ad' H' locs' arr' w1 w2 w3 w4 => k hok p e R s m args below meth c fc D kc A Z n0 ad0 hK hex hA hscr hret ad' H' locs' arr' w1 w2 w3 w4
  obtain ⟨hx, hb, hml, hown, hts, hini, hr1, hr2, hr3, hr4⟩ := id fc
  obtain ⟨rfl, rfl⟩ := x_ok1 (i := .arraylength) hi
  rcases st with _ | ⟨(_ | _ | _ | _ | _ | q | q), st⟩ <;> first | exact False.elim h | skip
  · obtain ⟨kd, n, h1, h2, h3⟩ := h
    have hg := go h3 ad H locs arr hW hS hag hl
    rcases h2 with rfl | rfl | rfl | rfl
    · exact va_alen hx hb hK hW.1 q 0 (x_at_arr h1 (by omega) (by omega)) rfl rfl hd hg
    · exact va_alen hx hb hK hW.1 q 1 (x_at_arr h1 (by omega) (by omega)) rfl rfl hd hg
    · exact va_alen hx hb hK hW.1 q 2 (x_at_ref h1 (by omega)) rfl rfl hd hg
    · exact va_alen hx hb hK hW.1 q 3 (x_at_ref h1 (by omega)) rfl rfl hd hg
  · obtain ⟨⟨h0, h1⟩, h3⟩ := h
    obtain ⟨g1, g2, g3⟩ := hscr h0
    subst h1
    exact va_slen hx hb g1 g2 g3 hS hd (go h3 ad H locs arr hW hS hag hl)
set_option maxHeartbeats 1000000 in
theorem xs_objinit (l : Launch) {M : xM} {pc len a b : Nat} {v : Value} {ls st : List Value} {g : xG} {σ : xS} {τ : xL} {Q : xQ} {k2 : Nat} {raw : Instr} (hd : decode (x_by M.1) pc = .ok (raw, len)) (hi : x_oki (M.1, M.2.1, M.2.2.1, M.2.2.2.2.2.1) pc raw len (.invokedynamic k2) a b v = true)
    (h : x_stp M (.invokedynamic k2) (pc + len) a b v ls st g σ τ (fun pc ls st g σ τ => x_snd l M pc ls st g σ τ Q) Q (fun M' as g σ τ Q' => x_snd l M' 0 (x_loc as M'.2.2.1) [] g σ τ Q')) : x_snd l M pc ls st g σ τ Q := by
  intro hok p e R s m args below meth c fc D kc A Z n0 ad0 hK hex hA hscr hret ad H locs arr hW hS hag hl
  have go : ∀ {pc' : Nat} {ls' st' : List Value} {g' : xG} {σ' : xS} {τ' : xL}, x_snd l M pc' ls' st' g' σ' τ' Q → ∀ (ad' : Nat → Nat) (H' : Heap) (locs' : List Loc) (arr' : Array Slot), x_W kc D A ad' g' σ' τ' H' → va_S A s.heap H' locs' → x_ag M n0 ad0 ad' g' → x_lr ad' ls' arr' M.2.2.1 → W p l e R s m args below meth c H' locs' g'.2.2.1 g'.2.2.2 Z (F0 m pc' arr' (st'.map (x_cv ad'))) := fun k ad' H' locs' arr' w1 w2 w3 w4 => k hok p e R s m args below meth c fc D kc A Z n0 ad0 hK hex hA hscr hret ad' H' locs' arr' w1 w2 w3 w4
  obtain ⟨hx, hb, hml, hown, hts, hini, hr1, hr2, hr3, hr4⟩ := id fc
  rcases st with _ | ⟨(_ | _ | _ | _ | _ | q | _), st⟩ <;> first | exact False.elim h | skip
  obtain ⟨hc, h⟩ := x_bif_t h
  have hcat := x_cat_sum ad st 0 hc
  simp only [x_oki] at hi
  split at hi
  · obtain ⟨h1, h2⟩ := x_ok3 hi
    obtain ⟨h2, h3⟩ := x_ok3 h2
    obtain ⟨h3, h4⟩ := x_ok3 h3
    have e1 := Nat.eq_of_beq_eq_true h1
    subst e1
    have e3 := Nat.le_of_ble_eq_true h3
    have e4 := Nat.le_of_ble_eq_true h4
    refine W.objInit hx hb hown (hts _ (x_has_in h2 rfl)) (hts _ (x_tbl_in (by decide +kernel) rfl)) (hts _ (x_tbl_in (by decide +kernel) rfl)) rfl (by rw [hml]; exact hl.1) rfl hd (by omega) ?_ (go h ad H locs arr hW hS hag hl)
    show 2 * 0 + _ + 12 ≤ R.locals
    omega
  · cases hi
set_option maxHeartbeats 1000000 in
theorem xs_copy (l : Launch) {M : xM} {pc len a b : Nat} {v : Value} {ls st : List Value} {g : xG} {σ : xS} {τ : xL} {Q : xQ} {k2 k3 : Nat} {raw : Instr} (hd : decode (x_by M.1) pc = .ok (raw, len)) (hi : x_oki (M.1, M.2.1, M.2.2.1, M.2.2.2.2.2.1) pc raw len (.invokeinterface k2 k3) a b v = true)
    (h : x_stp M (.invokeinterface k2 k3) (pc + len) a b v ls st g σ τ (fun pc ls st g σ τ => x_snd l M pc ls st g σ τ Q) Q (fun M' as g σ τ Q' => x_snd l M' 0 (x_loc as M'.2.2.1) [] g σ τ Q')) : x_snd l M pc ls st g σ τ Q := by
  intro hok p e R s m args below meth c fc D kc A Z n0 ad0 hK hex hA hscr hret ad H locs arr hW hS hag hl
  have go : ∀ {pc' : Nat} {ls' st' : List Value} {g' : xG} {σ' : xS} {τ' : xL}, x_snd l M pc' ls' st' g' σ' τ' Q → ∀ (ad' : Nat → Nat) (H' : Heap) (locs' : List Loc) (arr' : Array Slot), x_W kc D A ad' g' σ' τ' H' → va_S A s.heap H' locs' → x_ag M n0 ad0 ad' g' → x_lr ad' ls' arr' M.2.2.1 → W p l e R s m args below meth c H' locs' g'.2.2.1 g'.2.2.2 Z (F0 m pc' arr' (st'.map (x_cv ad'))) := fun k ad' H' locs' arr' w1 w2 w3 w4 => k hok p e R s m args below meth c fc D kc A Z n0 ad0 hK hex hA hscr hret ad' H' locs' arr' w1 w2 w3 w4
  obtain ⟨hx, hb, hml, hown, hts, hini, hr1, hr2, hr3, hr4⟩ := id fc
  rcases st with _ | ⟨(n | _ | _ | _ | _ | _ | _), st⟩ <;> first | exact False.elim h | skip
  rcases st with _ | ⟨(dp | _ | _ | _ | _ | _ | _), st⟩ <;> first | exact False.elim h | skip
  rcases st with _ | ⟨(_ | _ | _ | _ | _ | q1 | _), st⟩ <;> first | exact False.elim h | skip
  rcases st with _ | ⟨(sp | _ | _ | _ | _ | _ | _), st⟩ <;> first | exact False.elim h | skip
  rcases st with _ | ⟨(_ | _ | _ | _ | _ | q0 | _), st⟩ <;> first | exact False.elim h | skip
  obtain ⟨n0, n1, h1, h2, ⟨g1, g2, g3, g4, g5⟩, h3⟩ := h
  obtain ⟨hc, h3⟩ := x_bif_t h3
  have hcat := x_cat_sum ad st 0 hc
  simp only [x_oki] at hi
  split at hi
  · obtain ⟨i1, i2⟩ := x_ok3 hi
    obtain ⟨i2, i3⟩ := x_ok3 i2
    obtain ⟨i3, i4⟩ := x_ok3 i3
    have e1 := Nat.eq_of_beq_eq_true i1
    subst e1
    have e3 := Nat.le_of_ble_eq_true i3
    have e4 := Nat.le_of_ble_eq_true i4
    have ew := x_wd_upd (kc := kc) (ad := ad) (ρ := g.2.1) (ρ' := g.2.1) (σ := σ) (σ' := x_row σ q1 (va_cpy (σ q0) (σ q1) sp.toNatClampNeg dp.toNatClampNeg n.toNatClampNeg)) (τ := τ) (τ' := τ) h2 (fun _ _ => rfl) (fun k hk => x_row_ne hk) (fun _ _ => rfl)
    have ec : x_cell kc ad g.2.1 (x_row σ q1 (va_cpy (σ q0) (σ q1) sp.toNatClampNeg dp.toNatClampNeg n.toNatClampNeg)) τ q1 (16, n1) = .inl (kc 16, n1, .inl (va_cpy (σ q0) (σ q1) sp.toNatClampNeg dp.toNatClampNeg n.toNatClampNeg)) := by
      simp [x_cell, x_row_eq]
    rw [ec] at ew
    have hnw : nativeFrameWords "java/lang/System" "arraycopy" 5 ≤ 41 := by decide +kernel
    refine va_copyi (ty := .int) hx hb (by rw [hml]; exact hl.1.symm) hown (hts _ (x_has_in i2 rfl)) (hts _ (x_tbl_in (by decide +kernel) rfl)) (hts _ (x_tbl_in (by decide +kernel) rfl)) (hts _ (x_tbl_in (by decide +kernel) rfl)) hK hW.1 hW.2.1 hS q0 q1 0 0 (x_at_arr h1 (by omega) (by omega)) (x_at_arr h2 (by omega) (by omega)) rfl rfl rfl g1 g2 g3 g4 g5 (fun _ _ => rfl) (by omega) (by omega) hd (fun H1 locs1 hP1 hD1 hS1 => ?_)
    rw [← ew] at hP1 hD1
    exact go h3 ad H1 locs1 arr ⟨hP1, hD1, hW.2.2⟩ hS1 hag hl
  · cases hi
set_option maxHeartbeats 1000000 in
theorem xs_dadd (l : Launch) {M : xM} {pc len a b : Nat} {v : Value} {ls st : List Value} {g : xG} {σ : xS} {τ : xL} {Q : xQ} {raw : Instr} (hd : decode (x_by M.1) pc = .ok (raw, len)) (hi : x_oki (M.1, M.2.1, M.2.2.1, M.2.2.2.2.2.1) pc raw len .dadd a b v = true)
    (h : x_stp M .dadd (pc + len) a b v ls st g σ τ (fun pc ls st g σ τ => x_snd l M pc ls st g σ τ Q) Q (fun M' as g σ τ Q' => x_snd l M' 0 (x_loc as M'.2.2.1) [] g σ τ Q')) : x_snd l M pc ls st g σ τ Q := by
  intro hok p e R s m args below meth c fc D kc A Z n0 ad0 hK hex hA hscr hret ad H locs arr hW hS hag hl
  have go : ∀ {pc' : Nat} {ls' st' : List Value} {g' : xG} {σ' : xS} {τ' : xL}, x_snd l M pc' ls' st' g' σ' τ' Q → ∀ (ad' : Nat → Nat) (H' : Heap) (locs' : List Loc) (arr' : Array Slot), x_W kc D A ad' g' σ' τ' H' → va_S A s.heap H' locs' → x_ag M n0 ad0 ad' g' → x_lr ad' ls' arr' M.2.2.1 → W p l e R s m args below meth c H' locs' g'.2.2.1 g'.2.2.2 Z (F0 m pc' arr' (st'.map (x_cv ad'))) := fun k ad' H' locs' arr' w1 w2 w3 w4 => k hok p e R s m args below meth c fc D kc A Z n0 ad0 hK hex hA hscr hret ad' H' locs' arr' w1 w2 w3 w4
  obtain ⟨hx, hb, hml, hown, hts, hini, hr1, hr2, hr3, hr4⟩ := id fc
  rcases st with _ | ⟨(y | _ | _ | _ | _ | _ | _), st⟩ <;> first | exact False.elim h | skip
  rcases st with _ | ⟨(x | _ | _ | _ | _ | _ | _), st⟩ <;> first | exact False.elim h | skip
  obtain ⟨hc, h⟩ := x_bif_t h
  have hcat := x_cat_sum ad st 0 hc
  simp only [x_oki] at hi
  split at hi
  · obtain ⟨i1, i2⟩ := x_ok3 hi
    obtain ⟨i2, i3⟩ := x_ok3 i2
    obtain ⟨i3, i4⟩ := x_ok3 i3
    have e1 := Nat.eq_of_beq_eq_true i1
    subst e1
    have e3 := Nat.le_of_ble_eq_true i3
    have e4 := Nat.le_of_ble_eq_true i4
    obtain ⟨-, -, -, b1, b2⟩ := id hag
    exact va_mmax hx hb (by rw [hml]; exact hl.1.symm) hown (hts _ (x_has_in i2 rfl)) (hts _ (x_tbl_in (by decide +kernel) rfl)) (hts _ (x_tbl_in (by decide +kernel) rfl)) (hts _ (x_tbl_in (by decide +kernel) rfl)) (by omega) (by omega) (by omega) (by omega) hd (go h ad H locs arr hW hS hag hl)
  · cases hi
set_option maxHeartbeats 1000000 in
theorem xs_dsub (l : Launch) {M : xM} {pc len a b : Nat} {v : Value} {ls st : List Value} {g : xG} {σ : xS} {τ : xL} {Q : xQ} {raw : Instr} (hd : decode (x_by M.1) pc = .ok (raw, len)) (hi : x_oki (M.1, M.2.1, M.2.2.1, M.2.2.2.2.2.1) pc raw len .dsub a b v = true)
    (h : x_stp M .dsub (pc + len) a b v ls st g σ τ (fun pc ls st g σ τ => x_snd l M pc ls st g σ τ Q) Q (fun M' as g σ τ Q' => x_snd l M' 0 (x_loc as M'.2.2.1) [] g σ τ Q')) : x_snd l M pc ls st g σ τ Q := by
  intro hok p e R s m args below meth c fc D kc A Z n0 ad0 hK hex hA hscr hret ad H locs arr hW hS hag hl
  have go : ∀ {pc' : Nat} {ls' st' : List Value} {g' : xG} {σ' : xS} {τ' : xL}, x_snd l M pc' ls' st' g' σ' τ' Q → ∀ (ad' : Nat → Nat) (H' : Heap) (locs' : List Loc) (arr' : Array Slot), x_W kc D A ad' g' σ' τ' H' → va_S A s.heap H' locs' → x_ag M n0 ad0 ad' g' → x_lr ad' ls' arr' M.2.2.1 → W p l e R s m args below meth c H' locs' g'.2.2.1 g'.2.2.2 Z (F0 m pc' arr' (st'.map (x_cv ad'))) := fun k ad' H' locs' arr' w1 w2 w3 w4 => k hok p e R s m args below meth c fc D kc A Z n0 ad0 hK hex hA hscr hret ad' H' locs' arr' w1 w2 w3 w4
  obtain ⟨hx, hb, hml, hown, hts, hini, hr1, hr2, hr3, hr4⟩ := id fc
  rcases st with _ | ⟨(y | _ | _ | _ | _ | _ | _), st⟩ <;> first | exact False.elim h | skip
  rcases st with _ | ⟨(x | _ | _ | _ | _ | _ | _), st⟩ <;> first | exact False.elim h | skip
  obtain ⟨hc, h⟩ := x_bif_t h
  have hcat := x_cat_sum ad st 0 hc
  simp only [x_oki] at hi
  split at hi
  · obtain ⟨i1, i2⟩ := x_ok3 hi
    obtain ⟨i2, i3⟩ := x_ok3 i2
    obtain ⟨i3, i4⟩ := x_ok3 i3
    have e1 := Nat.eq_of_beq_eq_true i1
    subst e1
    have e3 := Nat.le_of_ble_eq_true i3
    have e4 := Nat.le_of_ble_eq_true i4
    obtain ⟨-, -, -, b1, b2⟩ := id hag
    exact va_mmin hx hb (by rw [hml]; exact hl.1.symm) hown (hts _ (x_has_in i2 rfl)) (hts _ (x_tbl_in (by decide +kernel) rfl)) (hts _ (x_tbl_in (by decide +kernel) rfl)) (hts _ (x_tbl_in (by decide +kernel) rfl)) (by omega) (by omega) (by omega) (by omega) hd (go h ad H locs arr hW hS hag hl)
  · cases hi
set_option maxHeartbeats 1000000 in
theorem xs_dneg (l : Launch) {M : xM} {pc len a b : Nat} {v : Value} {ls st : List Value} {g : xG} {σ : xS} {τ : xL} {Q : xQ} {raw : Instr} (hd : decode (x_by M.1) pc = .ok (raw, len)) (hi : x_oki (M.1, M.2.1, M.2.2.1, M.2.2.2.2.2.1) pc raw len .dneg a b v = true)
    (h : x_stp M .dneg (pc + len) a b v ls st g σ τ (fun pc ls st g σ τ => x_snd l M pc ls st g σ τ Q) Q (fun M' as g σ τ Q' => x_snd l M' 0 (x_loc as M'.2.2.1) [] g σ τ Q')) : x_snd l M pc ls st g σ τ Q := by
  intro hok p e R s m args below meth c fc D kc A Z n0 ad0 hK hex hA hscr hret ad H locs arr hW hS hag hl
  have go : ∀ {pc' : Nat} {ls' st' : List Value} {g' : xG} {σ' : xS} {τ' : xL}, x_snd l M pc' ls' st' g' σ' τ' Q → ∀ (ad' : Nat → Nat) (H' : Heap) (locs' : List Loc) (arr' : Array Slot), x_W kc D A ad' g' σ' τ' H' → va_S A s.heap H' locs' → x_ag M n0 ad0 ad' g' → x_lr ad' ls' arr' M.2.2.1 → W p l e R s m args below meth c H' locs' g'.2.2.1 g'.2.2.2 Z (F0 m pc' arr' (st'.map (x_cv ad'))) := fun k ad' H' locs' arr' w1 w2 w3 w4 => k hok p e R s m args below meth c fc D kc A Z n0 ad0 hK hex hA hscr hret ad' H' locs' arr' w1 w2 w3 w4
  obtain ⟨hx, hb, hml, hown, hts, hini, hr1, hr2, hr3, hr4⟩ := id fc
  rcases st with _ | ⟨(y | _ | _ | _ | _ | _ | _), st⟩ <;> first | exact False.elim h | skip
  obtain ⟨hc, h⟩ := x_bif_t h
  have hcat := x_cat_sum ad st 0 hc
  simp only [x_oki] at hi
  split at hi
  · obtain ⟨i1, i2⟩ := x_ok3 hi
    obtain ⟨i2, i3⟩ := x_ok3 i2
    obtain ⟨i3, i4⟩ := x_ok3 i3
    have e1 := Nat.eq_of_beq_eq_true i1
    subst e1
    have e3 := Nat.le_of_ble_eq_true i3
    have e4 := Nat.le_of_ble_eq_true i4
    obtain ⟨-, -, -, b1, b2⟩ := id hag
    exact va_mabs hx hb (by rw [hml]; exact hl.1.symm) hown (hts _ (x_has_in i2 rfl)) (hts _ (x_tbl_in (by decide +kernel) rfl)) (hts _ (x_tbl_in (by decide +kernel) rfl)) (hts _ (x_tbl_in (by decide +kernel) rfl)) (by omega) (by omega) (by omega) (by omega) hd (go h ad H locs arr hW hS hag hl)
  · cases hi
