/-! READING: the class -/
def rtr (V : Nat → Int32) (len p : Nat) (D : xP) (K : Nat) : Option Nat × xP :=
  if fgv V len (p + 1) = 10 then (some (p + 1), D) else
      if isS V len (p + 2) 45 = true then (none, ptrk D K (fgv V len (p + 1)) 10) else
      if fgv V len (p + 2) = 10 then (some (p + 2), D) else (none, ptrk D K (fgv V len (p + 1)) (fgv V len (p + 2)))
def rcr (V : Nat → Int32) (len p : Nat) (D : xP) (a : Nat) : Option Nat × xP :=
  if isS V len (p + 1) 62 = true then
      (if fgv V len (p + 2) < pn D ∧ fgv V len (p + 2) ≠ a then (none, padd D a (fgv V len (p + 2))) else (some (p + 2), D))
      else (some (p + 1), D)
theorem rst_t {V : Nat → Int32} {len p : Nat} {D : xP} (h : kdv V len p < 6 ∧ pc D = 0 ∧ pn D < 7) : rst V len p D = rtr V len p D (kdv V len p) := by
  unfold rst
  rw [if_pos h]
  rfl
theorem rst_c {V : Nat → Int32} {len p : Nat} {D : xP} (h : ¬ (kdv V len p < 6 ∧ pc D = 0 ∧ pn D < 7)) (h2 : fgv V len p < pn D ∧ pc D < 16) : rst V len p D = rcr V len p D (fgv V len p) := by
  unfold rst
  rw [if_neg h, if_pos h2]
  rfl
theorem rst_n {V : Nat → Int32} {len p : Nat} {D : xP} (h : ¬ (kdv V len p < 6 ∧ pc D = 0 ∧ pn D < 7)) (h2 : ¬ (fgv V len p < pn D ∧ pc D < 16)) : rst V len p D = (some p, D) := by
  unfold rst
  rw [if_neg h, if_neg h2]
theorem e_R_readTrack (σ : xS) (τ : xL) {D : xP} (hD : PC σ 24 D) (hn : pn D < 7) {k len p K : Nat} (hk : k < 4) (hl : len ≤ 80) (hp : p ≤ 80) {V : Nat → Int32} (hV : V = σ (12 + k)) {vK : Int32} (eK : vK = nI K) : Rs m_R_readTrack [.ref 23, .int vK, .ref (12 + k), .int (nI len), .int (nI p)] σ τ (some (.int (aI (rtr V len p D K).1))) (fun σ' => Ag [24, 25, 26, 27, 28, 29] σ σ' ∧ PC σ' 24 (rtr V len p D K).2) := by
  intro Q h
  subst hV eK
  have f1 := fgv_le (σ (12 + k)) len (p + 1)
  have f2 := fgv_le (σ (12 + k)) len (p + 2)
  unfold rtr at h
  refine ev_go 100 [] ?_
  refine e_R_signAt σ τ hk hl (p := p + 1) (by omega) (nI_1 p) _ ?_
  refine e_R_figureOf σ τ _ _ ?_
  rw [sgC_fig]
  by_cases h1 : fgv (σ (12 + k)) len (p + 1) = 10
  · refine bn_f ((fI_9 f1).mpr h1) ?_
    rw [if_pos h1] at h
    have := h σ ⟨Ag.refl, hD⟩
    rw [show aI (some (p + 1), D).1 = nI p + 1 from (nI_1 p).symm] at this
    exact this
  refine bn_t (fun z => h1 ((fI_9 f1).mp z)) ?_
  rw [if_neg h1] at h
  refine e_R_signAt σ τ hk hl (p := p + 2) (by omega) (nI_2 p) _ ?_
  by_cases h2 : isS (σ (12 + k)) len (p + 2) 45 = true
  · refine bn_f ((sgC_is (by decide)).mpr h2) ?_
    rw [if_pos h2] at h
    refine bn_t (by decide) ?_
    refine e_P_addTrack σ τ hD hn (k := K) (z := fgv (σ (12 + k)) len (p + 1)) (f := 10) rfl (fI_t (by omega)) rfl _ (fun σ2 h3 => ?_)
    exact h σ2 ⟨h3.1.mono (by decide), h3.2⟩
  refine bn_t (fun z => h2 ((sgC_is (by decide)).mp z)) ?_
  rw [if_neg h2] at h
  refine e_R_figureOf σ τ _ _ ?_
  rw [sgC_fig]
  by_cases h3 : fgv (σ (12 + k)) len (p + 2) = 10
  · refine bn_f ((fI_9 f2).mpr h3) ?_
    rw [if_pos h3] at h
    have := h σ ⟨Ag.refl, hD⟩
    rw [show aI (some (p + 2), D).1 = nI p + 2 from (nI_2 p).symm] at this
    exact this
  refine bn_t (fun z => h3 ((fI_9 f2).mp z)) ?_
  rw [if_neg h3] at h
  refine e_P_addTrack σ τ hD hn (k := K) (z := fgv (σ (12 + k)) len (p + 1)) (f := fgv (σ (12 + k)) len (p + 2)) rfl (fI_t (by omega)) (fI_t (by omega)) _ (fun σ2 h4 => ?_)
  exact h σ2 ⟨h4.1.mono (by decide), h4.2⟩
theorem e_R_readCrossing (σ : xS) (τ : xL) {D : xP} (hD : PC σ 24 D) (hn : pn D ≤ 7) (hc : pc D < 16) {k len p a : Nat} (ha : a < pn D) (hk : k < 4) (hl : len ≤ 80) (hp : p ≤ 80) {V : Nat → Int32} (hV : V = σ (12 + k)) {va : Int32} (ea : va = nI a) : Rs m_R_readCrossing [.ref 23, .int va, .ref (12 + k), .int (nI len), .int (nI p)] σ τ (some (.int (aI (rcr V len p D a).1))) (fun σ' => Ag [24, 25, 26, 27, 28, 29] σ σ' ∧ PC σ' 24 (rcr V len p D a).2) := by
  intro Q h
  subst hV ea
  have f2 := fgv_le (σ (12 + k)) len (p + 2)
  unfold rcr at h
  refine ev_go 100 [] ?_
  refine e_R_signAt σ τ hk hl (p := p + 1) (by omega) (nI_1 p) _ ?_
  by_cases h1 : isS (σ (12 + k)) len (p + 1) 62 = true
  · refine br_t ((sgC_is (by decide)).mpr h1) ?_
    rw [if_pos h1] at h
    refine e_R_signAt σ τ hk hl (p := p + 2) (by omega) (nI_2 p) _ ?_
    refine e_R_figureOf σ τ _ _ ?_
    rw [sgC_fig]
    refine e_P_areTwoD σ τ _ _ _ ?_
    rw [hD.1]
    by_cases h2 : fgv (σ (12 + k)) len (p + 2) < pn D ∧ fgv (σ (12 + k)) len (p + 2) ≠ a
    · rw [if_pos h2] at h
      refine bn_t (xb1 ⟨⟨nI_pos (by omega), nI_ge ha (by omega)⟩, (fI_trk f2 hn).mpr h2.1, fun z => ?_⟩) ?_
      · rw [fI_t (by omega), q_eq (by omega) (by omega)] at z
        exact h2.2 z.symm
      rw [fI_t (by omega)]
      refine e_P_addCrossing σ τ (Or.inr rfl) hD.2.1 hc _ ?_
      exact h _ ⟨(Ag.cadd (o := 24)).mono (by decide), hD.add a _⟩
    · rw [if_neg h2] at h
      refine bn_f (xb0 (fun z => ?_)) ?_
      · obtain ⟨_, z2, z3⟩ := z
        have z4 := (fI_trk f2 hn).mp z2
        refine h2 ⟨z4, fun e => z3 ?_⟩
        rw [fI_t (by omega), e]
      · have := h σ ⟨Ag.refl, hD⟩
        rw [show aI (some (p + 2), D).1 = nI p + 2 from (nI_2 p).symm] at this
        exact this
  · refine br_f (fun z => h1 ((sgC_is (by decide)).mp z)) ?_
    rw [if_neg h1] at h
    have := h σ ⟨Ag.refl, hD⟩
    rw [show aI (some (p + 1), D).1 = nI p + 1 from (nI_1 p).symm] at this
    exact this
theorem e_R_readItem (σ : xS) (τ : xL) {D : xP} (hD : PC σ 24 D) (hn : pn D ≤ 7) (hc : pc D ≤ 16) {k len p : Nat} (hk : k < 4) (hl : len ≤ 80) (hp : p ≤ 80) {V : Nat → Int32} (hV : V = σ (12 + k)) : Rs m_R_readItem [.ref 23, .ref (12 + k), .int (nI len), .int (nI p)] σ τ (some (.int (aI (rst V len p D).1))) (fun σ' => Ag [24, 25, 26, 27, 28, 29] σ σ' ∧ PC σ' 24 (rst V len p D).2) := by
  intro Q h
  have f0 := fgv_le V len p
  have k0 := kdv_le V len p
  have go : ∀ u : Int32, ¬ (kdv V len p < 6 ∧ pc D = 0 ∧ pn D < 7) → Ev m_R_readItem 50 [.ref 23, .ref (12 + k), .int (nI len), .int (nI p), .int u, .null] [] x_g σ τ Q := by
    intro u hno
    refine ev_go 100 [] ?_
    refine e_R_signAt σ τ hk hl (p := p) (by omega) rfl _ ?_
    refine e_R_figureOf σ τ _ _ ?_
    rw [sgC_fig, ← hV]
    refine e_P_isTrackD σ τ _ _ ?_
    rw [hD.1]
    by_cases h1 : fgv V len p < pn D
    · refine br_f (xb1 ((fI_trk f0 hn).mpr h1)) ?_
      by_cases h2 : pc D < 16
      · refine br_f (by rw [hD.2.1]; exact nI_ge (b := 16) h2 (by decide)) ?_
        rw [rst_c hno ⟨h1, h2⟩] at h
        refine e_R_readCrossing σ τ hD hn h2 h1 hk hl hp hV (fI_t (by omega)) _ (fun σ2 h3 => ?_)
        exact h σ2 h3
      · refine br_t (by rw [hD.2.1]; exact nI_le (a := 16) (by omega) (by omega)) ?_
        rw [rst_n hno (fun z => h2 z.2)] at h
        exact h σ ⟨Ag.refl, hD⟩
    · refine br_t (xb0 (fun z => h1 ((fI_trk f0 hn).mp z))) ?_
      rw [rst_n hno (fun z => h1 z.1)] at h
      exact h σ ⟨Ag.refl, hD⟩
  refine ev_go 100 [50] ?_
  refine e_R_signAt σ τ hk hl (p := p) (by omega) rfl _ ?_
  refine e_R_kindOf σ τ _ _ ?_
  rw [sgC_kn, ← hV]
  by_cases h1 : kdv V len p = 6
  · refine br_t ((kI_9 k0).mpr h1) ?_
    exact go _ (fun z => by omega)
  refine br_f (fun z => h1 ((kI_9 k0).mp z)) ?_
  by_cases h2 : pc D = 0
  case neg =>
    refine bn_t (by rw [hD.2.1]; exact nI_ne0 (by omega) (by omega)) ?_
    exact go _ (fun z => h2 z.2.1)
  refine bn_f (by rw [hD.2.1, h2]; rfl) ?_
  by_cases h3 : pn D < 7
  case neg =>
    refine br_t (by rw [hD.1]; exact nI_le (a := 7) (by omega) (by omega)) ?_
    exact go _ (fun z => h3 z.2.2)
  refine br_f (by rw [hD.1]; exact nI_ge (b := 7) h3 (by decide)) ?_
  rw [rst_t ⟨by omega, h2, h3⟩] at h
  refine e_R_readTrack σ τ hD h3 hk hl hp hV (kI_t (by omega)) _ (fun σ2 h4 => ?_)
  exact h σ2 h4
theorem e_R_read_go (σ : xS) (τ : xL) {k len : Nat} (hk : k < 4) (hl : len ≤ 80) {V : Nat → Int32} (hV : V = σ (12 + k)) {Q : xQ} : ∀ (f p : Nat) (D : xP) (σ1 : xS) (u1 u2 : Value), len ≤ p + f → p ≤ 83 → DV D → Ag [24, 25, 26, 27, 28, 29] σ σ1 → PC σ1 24 D → (∀ σ2, Ag [24, 25, 26, 27, 28, 29] σ σ2 → PC σ2 24 (rdf V len f p D).2 → Q (some (.int (aI (rdf V len f p D).1))) x_g σ2 τ) → Ev m_R_read 10 [.ref 23, .ref (12 + k), .int (nI len), u1, .int (nI p), u2] [] x_g σ1 τ Q
  | 0, p, D, σ1, u1, u2, hf, hp, hv, hA, hD, h => by
    refine ev_go 100 [] ?_
    refine br_t (nI_le (by omega) (by omega)) ?_
    exact h σ1 hA hD
  | f + 1, p, D, σ1, u1, u2, hf, hp, hv, hA, hD, h => by
    have hn : pn D ≤ 7 := hv.1
    have hc : pc D ≤ 16 := hv.2.1
    have eV : σ1 (12 + k) = V := by rw [hA (12 + k) (by simp; omega), hV]
    simp only [rdf] at h
    by_cases hlt : p < len
    case neg =>
      rw [if_neg hlt] at h
      refine ev_go 100 [] ?_
      refine br_t (nI_le (by omega) (by omega)) ?_
      exact h σ1 hA hD
    rw [if_pos hlt] at h
    refine ev_go 100 [10] ?_
    refine br_f (nI_ge hlt (by omega)) ?_
    refine ⟨80, sh_texts k hk, q_in (by omega) (by decide), ?_⟩
    rw [cl7 (by omega), eV]
    by_cases h32 : V p = 32
    · refine br_t h32 ?_
      rw [if_pos h32] at h
      show Ev m_R_read 10 [.ref 23, .ref (12 + k), .int (nI len), .int 1, .int (nI p + 1), u2] [] x_g σ1 τ Q
      rw [nI_1]
      exact e_R_read_go σ τ hk hl hV f (p + 1) D σ1 _ _ (by omega) (by omega) hv hA hD h
    refine br_f h32 ?_
    rw [if_neg h32] at h
    refine e_R_readItem σ1 τ hD hn hc hk hl (by omega) eV.symm _ (fun σ2 h2 => ?_)
    have hv2 := rst_dv (V := V) (len := len) (p := p) hv
    cases hr : (rst V len p D).1 with
    | some q =>
      rw [hr] at h
      have hq : q < 2 ^ 31 := by
        have : q ≤ p + 2 := by
          unfold rst at hr
          revert hr
          repeat (first | (split) | (intro hr; injection hr with hr; omega) | (intro hr; cases hr))
        omega
      refine br_f (nI_ne9 hq) ?_
      exact h σ2 (hA.trans h2.1) h2.2
    | none =>
      rw [hr] at h
      refine br_t rfl ?_
      show Ev m_R_read 10 [.ref 23, .ref (12 + k), .int (nI len), .int 3, .int (nI p + 3), .int (-9)] [] x_g σ2 τ Q
      rw [show nI p + 3 = nI (p + 3) from nI_add p 3]
      exact e_R_read_go σ τ hk hl hV f (p + 3) _ σ2 _ _ (by omega) (by omega) hv2 (hA.trans h2.1) h2.2 h
def D0 (w : Nat) : xP := (0, 0, w, fun _ => 0, fun _ => 0, fun _ => 0, fun _ => 0, fun _ => 0)
theorem D0_dv (w : Nat) : DV (D0 w) := ⟨Nat.zero_le 7, Nat.zero_le 16, Nat.zero_le 1, fun i hi => absurd hi (Nat.not_lt_zero i), fun k hk => absurd hk (Nat.not_lt_zero k)⟩
theorem nI_sur (x : Int32) : ∃ w, x = nI w := ⟨x.toBitVec.toNat, by
  apply Int32.toBitVec_inj.1
  show x.toBitVec = BitVec.ofNat 32 x.toBitVec.toNat
  rw [BitVec.ofNat_toNat]
  simp⟩
/-- what is read doesn't hang on the draft's wind -/
theorem e_R_read (σ : xS) (τ : xL) {k len : Nat} (hk : k < 4) (hl : len ≤ 80) {vl : Int32} (el : vl = nI len) : ∃ w, σ 24 2 = nI w ∧ Rs m_R_read [.ref 23, .ref (12 + k), .int vl] σ τ (some (.int (aI (rdf (σ (12 + k)) len 81 0 (D0 w)).1))) (fun σ' => Ag [24, 25, 26, 27, 28, 29] σ σ' ∧ PC σ' 24 (rdf (σ (12 + k)) len 81 0 (D0 w)).2) := by
  obtain ⟨w, hw⟩ := nI_sur (σ 24 2)
  subst el
  refine ⟨w, hw, fun Q h => ?_⟩
  refine ev_go 100 [10] ?_
  have hcl : Rn m_P_clear [.ref 24] σ τ none (x_row (x_row σ 24 (upd (σ 24) 0 0)) 24 (upd (x_row σ 24 (upd (σ 24) 0 0) 24) 1 0)) τ := by
    intro Q h
    refine ev_go 100 [] ?_
    exact h
  refine hcl _ ?_
  refine e_R_read_go σ τ hk hl rfl 81 0 (D0 w) _ .null .null (by omega) (by omega) (D0_dv w) ((Ag.refl.row (by decide)).row (by decide)) ⟨rfl, rfl, hw, fun i hi => absurd hi (Nat.not_lt_zero i), fun k hk => absurd hk (Nat.not_lt_zero k)⟩ (fun σ2 h1 h2 => h σ2 ⟨h1, h2⟩)
