/-! READING: the model -/
def sgM (V : Nat → Int32) (len p : Nat) : Int32 := if p < len then V p else -1000
theorem sgM_fig (V : Nat → Int32) (len p : Nat) : fig (sgM V len p) = fgv V len p := by
  unfold sgM fgv
  by_cases h : p < len
  · rw [if_pos h, if_pos h]
  · rw [if_neg h, if_neg h]
    decide
theorem sgM_kn (V : Nat → Int32) (len p : Nat) : kn (sgM V len p) = kdv V len p := by
  unfold sgM kdv
  by_cases h : p < len
  · rw [if_pos h, if_pos h]
  · rw [if_neg h, if_neg h]
    decide
theorem sgM_is {V : Nat → Int32} {len p : Nat} {x : Int32} (hx : ¬ (-1000 : Int32) = x) : sgM V len p = x ↔ isS V len p x = true := by
  unfold sgM isS
  by_cases h : p < len
  · rw [if_pos h]
    simp [h]
  · rw [if_neg h]
    simp [h, hx]
theorem e80k (k i : Nat) : (80 : Int32) * nI k + nI i = nI (80 * k + i) := by rw [show (80 : Int32) = nI 80 from rfl, pk_mul, nI_add]
theorem e_M_byteAt (σ : xS) (τ : xL) {k len p : Nat} (hk : k < 4) (hlen : σ 72 k = nI len) (hl : len ≤ 80) (hp : p < 2 ^ 31) {V : Nat → Int32} (hVV : ∀ i, i < 80 → V i = σ 73 (80 * k + i)) {v : Int32} (hv : v = nI p) : Rn m_M_byteAt [.ref 67, .int (nI k), .int v] σ τ (some (.int (sgM V len p))) σ τ := by
  intro Q h
  subst hv
  unfold sgM at h
  refine ev_go 100 [] ?_
  refine ⟨4, rfl, q_in hk (by decide), ?_⟩
  rw [cl7 (by omega), hlen]
  by_cases hlt : p < len
  · refine br_f (nI_ge hlt (by omega)) ?_
    refine ⟨320, rfl, by rw [e80k]; exact q_in (by omega) (by decide), ?_⟩
    rw [e80k, cl7 (by omega), ← hVV p (by omega)]
    rw [if_pos hlt] at h
    exact h
  · refine br_t (nI_le (by omega) hp) ?_
    rw [if_neg hlt] at h
    exact h
theorem e_M_isFigure (σ : xS) (τ : xL) (x : Int32) : Rn m_M_isFigure [.int x] σ τ (some (.int (x_b (¬ x < 48 ∧ ¬ 57 < x)))) σ τ := by
  intro Q h
  refine ev_go 100 [] ?_
  refine e_M_in σ τ x 48 57 _ ?_
  exact ⟨x_b_01, h⟩
def DM (σ : xS) (D : xP) (p : Nat) : Prop := σ 67 18 = nI p ∧ σ 67 19 = nI (pn D) ∧ σ 67 20 = nI (pc D) ∧ Ar σ 79 (pn D) (pk D) ∧ Ar σ 80 (pn D) (pz D) ∧ Ar σ 81 (pn D) (pf D) ∧ Ar σ 82 (pc D) (po D) ∧ Ar σ 83 (pc D) (pu D)
def AgM (σ σ' : xS) : Prop := Ag [67, 79, 80, 81, 82, 83] σ σ' ∧ ∀ j, j ≠ 18 → j ≠ 19 → j ≠ 20 → σ' 67 j = σ 67 j
theorem AgM.refl {σ : xS} : AgM σ σ := ⟨Ag.refl, fun _ _ _ _ => rfl⟩
theorem AgM.trans {σ σ' σ'' : xS} (h : AgM σ σ') (h' : AgM σ' σ'') : AgM σ σ'' := ⟨h.1.trans h'.1, fun j a b c => (h'.2 j a b c).trans (h.2 j a b c)⟩
/-- the place gone on -/
def plc (σ : xS) (v : Int32) : xS := x_row σ 67 (upd (σ 67) 18 v)
theorem AgM.plc {σ : xS} {v : Int32} : AgM σ (plc σ v) := ⟨Ag.refl.row (by decide), fun j a b c => by
  show upd (σ 67) 18 v j = σ 67 j
  simp only [upd]
  rw [if_neg a]⟩
theorem DM.plc {σ : xS} {D : xP} {p q : Nat} (h : DM σ D p) {v : Int32} (hv : v = nI q) : DM (plc σ v) D q := by
  obtain ⟨a1, a2, a3, a4, a5, a6, a7, a8⟩ := h
  exact ⟨hv, a2, a3, a4, a5, a6, a7, a8⟩
def plo (p : Nat) : Option Nat → Nat
  | none => p + 3
  | some q => q
theorem DM.trk {σ σ' : xS} {D : xP} {p q k z f : Nat} (h : DM σ D p) (h18 : σ' 67 18 = nI q) (h19 : σ' 67 19 = nI (pn D + 1)) (h20 : σ' 67 20 = σ 67 20) (h1 : ∀ j, σ' 79 j = if j = pn D then nI k else σ 79 j) (h2 : ∀ j, σ' 80 j = if j = pn D then nI z else σ 80 j) (h3 : ∀ j, σ' 81 j = if j = pn D then nI f else σ 81 j) (h4 : σ' 82 = σ 82) (h5 : σ' 83 = σ 83) : DM σ' (ptrk D k z f) q := by
  obtain ⟨a1, a2, a3, a4, a5, a6, a7, a8⟩ := h
  exact ⟨h18, h19, h20.trans a3, a4.app h1, a5.app h2, a6.app h3, fun j hj => by rw [h4]; exact a7 j hj, fun j hj => by rw [h5]; exact a8 j hj⟩
theorem DM.add {σ σ' : xS} {D : xP} {p q a b : Nat} (h : DM σ D p) (h18 : σ' 67 18 = nI q) (h19 : σ' 67 19 = σ 67 19) (h20 : σ' 67 20 = nI (pc D + 1)) (h1 : σ' 79 = σ 79) (h2 : σ' 80 = σ 80) (h3 : σ' 81 = σ 81) (h4 : ∀ j, σ' 82 j = if j = pc D then nI a else σ 82 j) (h5 : ∀ j, σ' 83 j = if j = pc D then nI b else σ 83 j) : DM σ' (padd D a b) q := by
  obtain ⟨a1, a2, a3, a4, a5, a6, a7, a8⟩ := h
  exact ⟨h18, h19.trans a2, h20, fun j hj => by rw [h1]; exact a4 j hj, fun j hj => by rw [h2]; exact a5 j hj, fun j hj => by rw [h3]; exact a6 j hj, a7.app h4, a8.app h5⟩
set_option maxHeartbeats 2000000 in
theorem e_M_readTrack (σ : xS) (τ : xL) {D : xP} {k len p : Nat} (hD : DM σ D p) (hn : pn D ≤ 7) (hc : pc D ≤ 16) (hk : k < 4) (hlen : σ 72 k = nI len) (hl : len ≤ 80) (hp : p ≤ 80) {V : Nat → Int32} (hVV : ∀ i, i < 80 → V i = σ 73 (80 * k + i)) (hf : fgv V len p = 10) : Rs m_M_readTrack [.ref 67, .int (nI k)] σ τ (some (.int (x_b ((rst V len p D).1.isNone = true)))) (fun σ' => AgM σ σ' ∧ DM σ' (rst V len p D).2 (plo p (rst V len p D).1)) := by
  intro Q h
  have k0 := kdv_le V len p
  have f1 := fgv_le V len (p + 1)
  have f2 := fgv_le V len (p + 2)
  have nof : ¬ (fgv V len p < pn D ∧ pc D < 16) := fun z => by omega
  have bad : ¬ (kdv V len p < 6 ∧ pc D = 0 ∧ pn D < 7) → Q (some (.int 0)) x_g σ τ := fun hno => by
    rw [rst_n hno nof] at h
    exact h σ ⟨AgM.refl, hD⟩
  refine ev_go 100 [] ?_
  refine e_M_byteAt σ τ hk hlen hl (p := p) (by omega) hVV hD.1 _ ?_
  refine e_M_kindBy σ τ _ _ ?_
  rw [sgM_kn]
  by_cases h1 : kdv V len p = 6
  · refine br_t ((kI_9 k0).mpr h1) ?_
    exact ⟨Or.inl rfl, bad (fun z => by omega)⟩
  refine br_f (fun z => h1 ((kI_9 k0).mp z)) ?_
  by_cases h2 : pc D = 0
  case neg =>
    refine br_t (by rw [hD.2.2.1]; exact nI_lt (a := 0) (by omega) (by omega)) ?_
    exact ⟨Or.inl rfl, bad (fun z => h2 z.2.1)⟩
  refine br_f (by rw [hD.2.2.1, h2]; decide) ?_
  by_cases h3 : pn D < 7
  case neg =>
    refine bn_f (by rw [hD.2.1, show pn D = 7 by omega]; rfl) ?_
    exact ⟨Or.inl rfl, bad (fun z => h3 z.2.2)⟩
  refine bn_t (fun z => by rw [hD.2.1] at z; exact absurd ((q_eq (b := 7) (by omega) (by decide)).mp z) (by omega)) ?_
  rw [rst_t ⟨by omega, h2, h3⟩] at h
  unfold rtr at h
  have q1 : σ 67 18 + 1 = nI (p + 1) := by rw [hD.1, nI_1]
  refine e_M_byteAt (plc σ (σ 67 18 + 1)) τ hk hlen hl (p := p + 1) (by omega) hVV q1 _ ?_
  refine e_M_isFigure _ τ _ _ ?_
  by_cases g1 : fgv V len (p + 1) = 10
  · rw [if_pos g1] at h
    refine bn_f (xb0 (fun z => by
      have := fig_iff.mpr z
      rw [sgM_fig] at this
      omega)) ?_
    exact ⟨Or.inl rfl, h _ ⟨AgM.plc, hD.plc q1⟩⟩
  rw [if_neg g1] at h
  have g1' : ¬ sgM V len (p + 1) < 48 ∧ ¬ 57 < sgM V len (p + 1) := fig_iff.mp (by rw [sgM_fig]; omega)
  refine bn_t (xb1 g1') ?_
  have q2 : σ 67 18 + 1 + 1 = nI (p + 2) := by rw [q1, nI_1]
  refine e_M_byteAt (plc (plc σ (σ 67 18 + 1)) (σ 67 18 + 1 + 1)) τ hk hlen hl (p := p + 2) (by omega) hVV q2 _ ?_
  refine e_M_isFigure _ τ _ _ ?_
  have eK : kI (kdv V len p) = nI (kdv V len p) := kI_t (by omega)
  have eZ : sgM V len (p + 1) - 48 = nI (fgv V len (p + 1)) := by
    have := (fig_ok g1').2.2
    rw [sgM_fig] at this
    exact this
  have e19 : (σ 67 19).toNatClampNeg = pn D := by rw [hD.2.1]; exact cl7 (by omega)
  have q3 : σ 67 18 + 1 + 1 + 1 = nI (p + 3) := by rw [q2, nI_1]
  have key : ∀ (x : Int32) (f : Nat), x = nI f → ∀ σ', σ' = x_row (x_row (x_row (x_row (plc (plc (plc σ (σ 67 18 + 1)) (σ 67 18 + 1 + 1)) (σ 67 18 + 1 + 1 + 1)) 79 (upd (σ 79) (σ 67 19).toNatClampNeg (kI (kdv V len p)))) 80 (upd (σ 80) (σ 67 19).toNatClampNeg (sgM V len (p + 1) - 48))) 81 (upd (σ 81) (σ 67 19).toNatClampNeg x)) 67 (upd (upd (upd (upd (σ 67) 18 (σ 67 18 + 1)) 18 (σ 67 18 + 1 + 1)) 18 (σ 67 18 + 1 + 1 + 1)) 19 (σ 67 19 + 1)) → AgM σ σ' ∧ DM σ' (ptrk D (kdv V len p) (fgv V len (p + 1)) f) (p + 3) := by
    intro x f ef σ' es
    refine ⟨⟨by rw [es]; exact ((((((Ag.refl.row (by decide)).row (by decide)).row (by decide)).row (by decide)).row (by decide)).row (by decide)).row (by decide), fun j a b c => ?_⟩, hD.trk ?_ ?_ ?_ (fun j => ?_) (fun j => ?_) (fun j => ?_) ?_ ?_⟩
    · rw [es]
      show upd (upd (upd (upd (σ 67) 18 (σ 67 18 + 1)) 18 (σ 67 18 + 1 + 1)) 18 (σ 67 18 + 1 + 1 + 1)) 19 (σ 67 19 + 1) j = σ 67 j
      simp only [upd]
      rw [if_neg b, if_neg a, if_neg a, if_neg a]
    · rw [es]
      exact q3
    · rw [es]
      show σ 67 19 + 1 = nI (pn D + 1)
      rw [hD.2.1, nI_1]
    · rw [es]
      rfl
    · rw [es, e19, eK]
      rfl
    · rw [es, e19, eZ]
      rfl
    · rw [es, e19, ef]
      rfl
    · rw [es]
      rfl
    · rw [es]
      rfl
  have in19 : vp_in (σ 67 19) 7 := by rw [hD.2.1]; exact q_in h3 (by decide)
  by_cases g2 : isS V len (p + 2) 45 = true
  · have e45 : sgM V len (p + 2) = 45 := (sgM_is (by decide)).mpr g2
    rw [if_pos g2] at h
    refine bn_f (xb0 (by rw [e45]; decide)) ?_
    refine br_t e45 ?_
    refine ⟨7, rfl, in19, ?_⟩
    refine ⟨7, rfl, in19, ?_⟩
    refine bn_f e45 ?_
    refine ⟨7, rfl, in19, ?_⟩
    exact ⟨Or.inr rfl, h _ (key 10 10 rfl _ rfl)⟩
  rw [if_neg g2] at h
  have n45 : ¬ sgM V len (p + 2) = 45 := fun z => g2 ((sgM_is (by decide)).mp z)
  by_cases g3 : fgv V len (p + 2) = 10
  · rw [if_pos g3] at h
    refine bn_f (xb0 (fun z => by
      have := fig_iff.mpr z
      rw [sgM_fig] at this
      omega)) ?_
    refine br_f n45 ?_
    exact ⟨Or.inl rfl, h _ ⟨AgM.plc.trans AgM.plc, (hD.plc q1).plc q2⟩⟩
  rw [if_neg g3] at h
  have g3' : ¬ sgM V len (p + 2) < 48 ∧ ¬ 57 < sgM V len (p + 2) := fig_iff.mp (by rw [sgM_fig]; omega)
  have eF : sgM V len (p + 2) - 48 = nI (fgv V len (p + 2)) := by
    have := (fig_ok g3').2.2
    rw [sgM_fig] at this
    exact this
  refine bn_t (xb1 g3') ?_
  refine ⟨7, rfl, in19, ?_⟩
  refine ⟨7, rfl, in19, ?_⟩
  refine bn_t n45 ?_
  refine ⟨7, rfl, in19, ?_⟩
  exact ⟨Or.inr rfl, h _ (key _ _ eF _ rfl)⟩
theorem sec_ok {y : Int32} {m : Nat} (hm : m ≤ 7) : (¬ y - 48 < 0 ∧ ¬ (nI m - 1) < y - 48) ↔ fig y < m := by
  have e : (¬ y - 48 < 0 ∧ ¬ (nI m - 1) < y - 48) ↔ ∃ b, b < m ∧ y - 48 = nI b := by
    rw [q_pred (by omega)]
    exact q_trk hm _
  rw [e]
  constructor
  · rintro ⟨b, hb, eb⟩
    have ey : y = nI (b + 48) := by
      have : y - 48 + 48 = nI b + 48 := by rw [eb]
      rw [Int32.sub_add_cancel] at this
      rw [this]
      exact nI_add b 48
    have h48 : ¬ y < 48 ∧ ¬ 57 < y := by
      rw [ey]
      exact ⟨nI_nlt (b := 48) (by omega) (by omega), nI_nlt (a := 57) (by omega) (by decide)⟩
    have := (fig_ok h48).2.2
    rw [eb, q_eq (by omega) (by have := (fig_ok h48).1; omega)] at this
    omega
  · intro h
    have h48 := fig_iff.mp (show fig y < 10 by omega)
    exact ⟨fig y, h, (fig_ok h48).2.2⟩
set_option maxHeartbeats 2000000 in
theorem e_M_readCrossing (σ : xS) (τ : xL) {D : xP} {k len p : Nat} (hD : DM σ D p) (hn : pn D ≤ 7) (hc : pc D ≤ 16) (hk : k < 4) (hlen : σ 72 k = nI len) (hl : len ≤ 80) (hp : p ≤ 80) {V : Nat → Int32} (hVV : ∀ i, i < 80 → V i = σ 73 (80 * k + i)) (hf : fgv V len p < 10) : Rs m_M_readCrossing [.ref 67, .int (nI k)] σ τ (some (.int (x_b ((rst V len p D).1.isNone = true)))) (fun σ' => AgM σ σ' ∧ DM σ' (rst V len p D).2 (plo p (rst V len p D).1)) := by
  intro Q h
  have f2 := fgv_le V len (p + 2)
  have hkd : ¬ (kdv V len p < 6 ∧ pc D = 0 ∧ pn D < 7) := fun z => by
    have h1 := z.1
    unfold kdv at h1
    unfold fgv at hf
    by_cases hlt : p < len
    · rw [if_pos hlt] at h1 hf
      rw [kn_fig h1] at hf
      omega
    · rw [if_neg hlt] at h1
      omega
  refine ev_go 100 [] ?_
  by_cases h1 : pc D < 16
  case neg =>
    refine bn_f (by rw [hD.2.2.1, show pc D = 16 by omega]; rfl) ?_
    rw [rst_n hkd (fun z => h1 z.2)] at h
    exact ⟨Or.inl rfl, h σ ⟨AgM.refl, hD⟩⟩
  refine bn_t (fun z => by rw [hD.2.2.1] at z; exact absurd ((q_eq (b := 16) (by omega) (by decide)).mp z) (by omega)) ?_
  refine e_M_byteAt σ τ hk hlen hl (p := p) (by omega) hVV hD.1 _ ?_
  have ea : sgM V len p - 48 = nI (fgv V len p) := by
    have := (fig_ok (fig_iff.mp (show fig (sgM V len p) < 10 by rw [sgM_fig]; exact hf))).2.2
    rw [sgM_fig] at this
    exact this
  refine e_M_in σ τ _ _ _ _ ?_
  rw [hD.2.1]
  by_cases h2 : fgv V len p < pn D
  case neg =>
    refine bn_f (xb0 (fun z => h2 (by have := (sec_ok hn).mp z; rw [sgM_fig] at this; exact this))) ?_
    rw [rst_n hkd (fun z => h2 z.1)] at h
    exact ⟨Or.inl rfl, h σ ⟨AgM.refl, hD⟩⟩
  refine bn_t (xb1 ((sec_ok hn).mpr (by rw [sgM_fig]; exact h2))) ?_
  rw [rst_c hkd ⟨h2, h1⟩] at h
  unfold rcr at h
  have q1 : σ 67 18 + 1 = nI (p + 1) := by rw [hD.1, nI_1]
  refine e_M_byteAt (plc σ (σ 67 18 + 1)) τ hk hlen hl (p := p + 1) (by omega) hVV q1 _ ?_
  by_cases g1 : isS V len (p + 1) 62 = true
  case neg =>
    refine br_f (fun z => g1 ((sgM_is (by decide)).mp z)) ?_
    rw [if_neg g1] at h
    exact ⟨Or.inl rfl, h _ ⟨AgM.plc, hD.plc q1⟩⟩
  refine br_t ((sgM_is (by decide)).mpr g1) ?_
  rw [if_pos g1] at h
  have q2 : σ 67 18 + 1 + 1 = nI (p + 2) := by rw [q1, nI_1]
  refine e_M_byteAt (plc (plc σ (σ 67 18 + 1)) (σ 67 18 + 1 + 1)) τ hk hlen hl (p := p + 2) (by omega) hVV q2 _ ?_
  refine e_M_in _ τ _ _ _ _ ?_
  have e19 : (plc (plc σ (σ 67 18 + 1)) (σ 67 18 + 1 + 1)) 67 19 = nI (pn D) := hD.2.1
  have q3 : σ 67 18 + 1 + 1 + 1 = nI (p + 3) := by rw [q2, nI_1]
  have bad : ¬ (fgv V len (p + 2) < pn D ∧ fgv V len (p + 2) ≠ fgv V len p) → Q (some (.int 0)) x_g (plc (plc σ (σ 67 18 + 1)) (σ 67 18 + 1 + 1)) τ := fun hno => by
    rw [if_neg hno] at h
    exact h _ ⟨AgM.plc.trans AgM.plc, (hD.plc q1).plc q2⟩
  by_cases g2 : fgv V len (p + 2) < pn D
  case neg =>
    refine br_t (xb0 (fun z => g2 ?_)) ?_
    · have z2 : ¬ sgM V len (p + 2) - 48 < 0 ∧ ¬ (nI (pn D) - 1) < sgM V len (p + 2) - 48 := by rw [← hD.2.1]; exact z
      have := (sec_ok hn).mp z2
      rw [sgM_fig] at this
      exact this
    · exact ⟨Or.inl rfl, bad (fun z => g2 z.1)⟩
  have eb : sgM V len (p + 2) - 48 = nI (fgv V len (p + 2)) := by
    have := (fig_ok (fig_iff.mp (show fig (sgM V len (p + 2)) < 10 by rw [sgM_fig]; omega))).2.2
    rw [sgM_fig] at this
    exact this
  refine br_f (xb1 (by
    have z2 : ¬ sgM V len (p + 2) - 48 < 0 ∧ ¬ (nI (pn D) - 1) < sgM V len (p + 2) - 48 := (sec_ok hn).mpr (by rw [sgM_fig]; exact g2)
    rw [← hD.2.1] at z2
    exact z2)) ?_
  by_cases g3 : fgv V len (p + 2) = fgv V len p
  · refine bn_f (by rw [ea, eb, g3]) ?_
    exact ⟨Or.inl rfl, bad (fun z => z.2 g3)⟩
  refine bn_t (fun z => g3 (by rw [ea, eb, q_eq (by omega) (by omega)] at z; exact z)) ?_
  rw [if_pos ⟨g2, g3⟩] at h
  have e20 : (σ 67 20).toNatClampNeg = pc D := by rw [hD.2.2.1]; exact cl7 (by omega)
  have in20 : vp_in (σ 67 20) 16 := by rw [hD.2.2.1]; exact q_in h1 (by decide)
  refine ⟨16, rfl, in20, ?_⟩
  refine ⟨16, rfl, in20, ?_⟩
  have key : ∀ σ', σ' = x_row (x_row (x_row (plc (plc (plc σ (σ 67 18 + 1)) (σ 67 18 + 1 + 1)) (σ 67 18 + 1 + 1 + 1)) 82 (upd (σ 82) (σ 67 20).toNatClampNeg (sgM V len p - 48))) 83 (upd (σ 83) (σ 67 20).toNatClampNeg (sgM V len (p + 2) - 48))) 67 (upd (upd (upd (upd (σ 67) 18 (σ 67 18 + 1)) 18 (σ 67 18 + 1 + 1)) 18 (σ 67 18 + 1 + 1 + 1)) 20 (σ 67 20 + 1)) → AgM σ σ' ∧ DM σ' (padd D (fgv V len p) (fgv V len (p + 2))) (p + 3) := by
    intro σ' es
    refine ⟨⟨by rw [es]; exact (((((Ag.refl.row (by decide)).row (by decide)).row (by decide)).row (by decide)).row (by decide)).row (by decide), fun j a b c => ?_⟩, hD.add ?_ ?_ ?_ ?_ ?_ ?_ (fun j => ?_) (fun j => ?_)⟩
    · rw [es]
      show upd (upd (upd (upd (σ 67) 18 (σ 67 18 + 1)) 18 (σ 67 18 + 1 + 1)) 18 (σ 67 18 + 1 + 1 + 1)) 20 (σ 67 20 + 1) j = σ 67 j
      simp only [upd]
      rw [if_neg c, if_neg a, if_neg a, if_neg a]
    · rw [es]
      exact q3
    · rw [es]
      rfl
    · rw [es]
      show σ 67 20 + 1 = nI (pc D + 1)
      rw [hD.2.2.1, nI_1]
    · rw [es]
      rfl
    · rw [es]
      rfl
    · rw [es]
      rfl
    · rw [es, e20, ea]
      rfl
    · rw [es, e20, eb]
      rfl
  exact ⟨Or.inr rfl, h _ (key _ rfl)⟩
