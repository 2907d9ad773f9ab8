/-! READING: the pure part, and the class's reader -/
/-- a figure by its sign (10: none), a kind by its letter (6: none) -/
def fig (x : Int32) : Nat := if ¬ x < 48 ∧ ¬ 57 < x then (x - 48).toNatClampNeg else 10
def kn (x : Int32) : Nat := if x = 99 then 4 else if x = 101 then 2 else if x = 102 then 0 else if x = 104 then 1 else if x = 118 then 5 else if x = 119 then 3 else 6
def fI (n : Nat) : Int32 := if n < 10 then nI n else -9
def kI (n : Nat) : Int32 := if n < 6 then nI n else -9
theorem fig_ok {x : Int32} (h : ¬ x < 48 ∧ ¬ 57 < x) : fig x < 10 ∧ x = nI (48 + fig x) ∧ x - 48 = nI (fig x) := by
  have h0 : ¬ x < 0 := fun z => h.1 (by
    rw [Int32.lt_iff_toInt_lt] at z ⊢
    have e0 : (0 : Int32).toInt = 0 := by decide
    have e1 : (48 : Int32).toInt = 48 := by decide
    omega)
  obtain ⟨n, hn, rfl⟩ := nI_of h0
  have h1 : ¬ n < 48 := fun z => h.1 (nI_lt (b := 48) z (by decide))
  have h2 : ¬ 57 < n := fun z => h.2 (nI_lt (a := 57) z hn)
  have e : nI n - 48 = nI (n - 48) := pk_sub (b := 48) (by omega)
  have ef : fig (nI n) = n - 48 := by
    unfold fig
    rw [if_pos h, e]
    exact nI_clamp (by omega)
  rw [ef]
  exact ⟨by omega, congrArg nI (by omega), e⟩
theorem fig_no {x : Int32} (h : ¬ (¬ x < 48 ∧ ¬ 57 < x)) : fig x = 10 := if_neg h
theorem fig_le (x : Int32) : fig x ≤ 10 := by
  by_cases h : ¬ x < 48 ∧ ¬ 57 < x
  · have := (fig_ok h).1
    omega
  · rw [fig_no h]
    omega
theorem fig_iff {x : Int32} : fig x < 10 ↔ (¬ x < 48 ∧ ¬ 57 < x) := by
  constructor
  · intro h
    apply Classical.byContradiction
    intro z
    rw [fig_no z] at h
    omega
  · intro h
    exact (fig_ok h).1
theorem kn_le (x : Int32) : kn x ≤ 6 := by
  unfold kn
  repeat (first | omega | split)
/-- a letter is no figure -/
theorem kn_fig {x : Int32} (h : kn x < 6) : fig x = 10 := by
  unfold kn at h
  by_cases h1 : x = 99
  · rw [h1]; decide
  by_cases h2 : x = 101
  · rw [h2]; decide
  by_cases h3 : x = 102
  · rw [h3]; decide
  by_cases h4 : x = 104
  · rw [h4]; decide
  by_cases h5 : x = 118
  · rw [h5]; decide
  by_cases h6 : x = 119
  · rw [h6]; decide
  rw [if_neg h1, if_neg h2, if_neg h3, if_neg h4, if_neg h5, if_neg h6] at h
  omega
/-- signs by their places -/
def fgv (V : Nat → Int32) (len p : Nat) : Nat := if p < len then fig (V p) else 10
def kdv (V : Nat → Int32) (len p : Nat) : Nat := if p < len then kn (V p) else 6
def isS (V : Nat → Int32) (len p : Nat) (x : Int32) : Bool := decide (p < len) && decide (V p = x)
def setw (D : xP) (w : Nat) : xP := (pn D, pc D, w, pk D, pz D, pf D, po D, pu D)
def DV (D : xP) : Prop := PV (setw D 0)
def ptrk (D : xP) (k z f : Nat) : xP := (pn D + 1, pc D, pw D, nup (pk D) (pn D) k, nup (pz D) (pn D) z, nup (pf D) (pn D) f, po D, pu D)
def rst (V : Nat → Int32) (len p : Nat) (D : xP) : Option Nat × xP :=
  if kdv V len p < 6 ∧ pc D = 0 ∧ pn D < 7 then
    (if fgv V len (p + 1) = 10 then (some (p + 1), D) else
      if isS V len (p + 2) 45 = true then (none, ptrk D (kdv V len p) (fgv V len (p + 1)) 10) else
      if fgv V len (p + 2) = 10 then (some (p + 2), D) else (none, ptrk D (kdv V len p) (fgv V len (p + 1)) (fgv V len (p + 2))))
  else if fgv V len p < pn D ∧ pc D < 16 then
    (if isS V len (p + 1) 62 = true then
      (if fgv V len (p + 2) < pn D ∧ fgv V len (p + 2) ≠ fgv V len p then (none, padd D (fgv V len p) (fgv V len (p + 2))) else (some (p + 2), D))
      else (some (p + 1), D))
  else (some p, D)
def rdf (V : Nat → Int32) (len : Nat) : Nat → Nat → xP → Option Nat × xP
  | 0, _, D => (none, D)
  | f + 1, p, D => if p < len then (if V p = 32 then rdf V len f (p + 1) D else match (rst V len p D).1 with
    | some q => (some q, (rst V len p D).2)
    | none => rdf V len f (p + 3) (rst V len p D).2) else (none, D)
def aI : Option Nat → Int32
  | none => -9
  | some q => nI q
theorem fgv_le (V : Nat → Int32) (len p : Nat) : fgv V len p ≤ 10 := by
  unfold fgv
  split
  · exact fig_le _
  · omega
theorem kdv_le (V : Nat → Int32) (len p : Nat) : kdv V len p ≤ 6 := by
  unfold kdv
  split
  · exact kn_le _
  · omega
theorem DV.trk {D : xP} (h : DV D) {k z f : Nat} (hc : pc D = 0) (hn : pn D < 7) (hk : k ≤ 5) (hz : z ≤ 9) (hf : f ≤ 10) : DV (ptrk D k z f) := by
  obtain ⟨h1, h2, h3, h4, h5⟩ := h
  refine ⟨by show pn D + 1 ≤ 7; omega, h2, h3, fun i hi => ?_, fun k hk => ?_⟩
  · have hi : i < pn D + 1 := hi
    show nup (pk D) (pn D) k i ≤ 5 ∧ nup (pz D) (pn D) z i ≤ 9 ∧ nup (pf D) (pn D) f i ≤ 10
    by_cases e : i = pn D
    · rw [e, nup_eq, nup_eq, nup_eq]
      exact ⟨hk, hz, hf⟩
    · rw [nup_ne e, nup_ne e, nup_ne e]
      exact h4 i (by show i < pn D; omega)
  · have hk : k < pc D := hk
    omega
theorem DV.add {D : xP} (h : DV D) {a b : Nat} (hc : pc D < 16) (ha : a < pn D) (hb : b < pn D) (hab : a ≠ b) : DV (padd D a b) := PV.add (P := setw D 0) h hc ha hb hab
theorem rst_dv {V : Nat → Int32} {len p : Nat} {D : xP} (h : DV D) : DV (rst V len p D).2 := by
  have hn : pn D ≤ 7 := h.1
  unfold rst
  by_cases h1 : kdv V len p < 6 ∧ pc D = 0 ∧ pn D < 7
  · rw [if_pos h1]
    by_cases h2 : fgv V len (p + 1) = 10
    · rw [if_pos h2]
      exact h
    rw [if_neg h2]
    have := fgv_le V len (p + 1)
    by_cases h3 : isS V len (p + 2) 45 = true
    · rw [if_pos h3]
      exact h.trk h1.2.1 h1.2.2 (by omega) (by omega) (by omega)
    rw [if_neg h3]
    by_cases h4 : fgv V len (p + 2) = 10
    · rw [if_pos h4]
      exact h
    rw [if_neg h4]
    exact h.trk h1.2.1 h1.2.2 (by omega) (by omega) (fgv_le _ _ _)
  rw [if_neg h1]
  by_cases h2 : fgv V len p < pn D ∧ pc D < 16
  · rw [if_pos h2]
    by_cases h3 : isS V len (p + 1) 62 = true
    · rw [if_pos h3]
      by_cases h4 : fgv V len (p + 2) < pn D ∧ fgv V len (p + 2) ≠ fgv V len p
      · rw [if_pos h4]
        exact h.add h2.2 h2.1 h4.1 (fun z => h4.2 z.symm)
      · rw [if_neg h4]
        exact h
    · rw [if_neg h3]
      exact h
  · rw [if_neg h2]
    exact h
/-- the class's signs -/
def sgC (V : Nat → Int32) (len p : Nat) : Int32 := if p < len then V p else 256
theorem e_R_signAt (σ : xS) (τ : xL) {k len p : Nat} (hk : k < 4) (hl : len ≤ 80) (hp : p < 2 ^ 31) {v : Int32} (hv : v = nI p) : Rn m_R_signAt [.ref (12 + k), .int (nI len), .int v] σ τ (some (.int (sgC (σ (12 + k)) len p))) σ τ := by
  intro Q h
  subst hv
  refine ev_go 100 [] ?_
  refine br_f (nI_pos hp) ?_
  by_cases hlt : p < len
  · refine br_f (nI_ge hlt (by omega)) ?_
    refine ⟨80, sh_texts k hk, q_in (by omega) (by decide), ?_⟩
    rw [cl7 (by omega)]
    unfold sgC at h
    rw [if_pos hlt] at h
    exact h
  · refine br_t (nI_le (by omega) hp) ?_
    unfold sgC at h
    rw [if_neg hlt] at h
    exact h
theorem e_R_figureOf (σ : xS) (τ : xL) (x : Int32) : Rn m_R_figureOf [.int x] σ τ (some (.int (fI (fig x)))) σ τ := by
  intro Q h
  refine ev_go 100 [] ?_
  by_cases h1 : x < 48
  · refine br_t h1 ?_
    rw [fig_no (fun z => z.1 h1)] at h
    exact h
  · refine br_f h1 ?_
    by_cases h2 : 57 < x
    · refine br_t h2 ?_
      rw [fig_no (fun z => z.2 h2)] at h
      exact h
    · refine br_f h2 ?_
      obtain ⟨a, b, c⟩ := fig_ok ⟨h1, h2⟩
      unfold fI at h
      rw [if_pos a, ← c] at h
      exact h
theorem e_R_kindOf (σ : xS) (τ : xL) (x : Int32) : Rn m_R_kindOf [.int x] σ τ (some (.int (kI (kn x)))) σ τ := by
  intro Q h
  refine ev_go 100 [] ?_
  refine ⟨fun e => ?_, fun n1 => ⟨fun e => ?_, fun n2 => ⟨fun e => ?_, fun n3 => ⟨fun e => ?_, fun n4 => ⟨fun e => ?_, fun n5 => ⟨fun e => ?_, fun n6 => ?_⟩⟩⟩⟩⟩⟩
  · rw [e] at h; exact h
  · rw [e] at h; exact h
  · rw [e] at h; exact h
  · rw [e] at h; exact h
  · rw [e] at h; exact h
  · rw [e] at h; exact h
  · unfold kn at h
    rw [if_neg n1, if_neg n2, if_neg n3, if_neg n4, if_neg n5, if_neg n6] at h
    exact h
theorem e_M_kindBy (σ : xS) (τ : xL) (x : Int32) : Rn m_M_kindBy [.int x] σ τ (some (.int (kI (kn x)))) σ τ := by
  intro Q h
  refine ev_go 100 [] ?_
  refine ⟨fun e => ?_, fun n1 => ⟨fun e => ?_, fun n2 => ⟨fun e => ?_, fun n3 => ⟨fun e => ?_, fun n4 => ⟨fun e => ?_, fun n5 => ⟨fun e => ?_, fun n6 => ?_⟩⟩⟩⟩⟩⟩
  · rw [e] at h; exact h
  · rw [e] at h; exact h
  · rw [e] at h; exact h
  · rw [e] at h; exact h
  · rw [e] at h; exact h
  · rw [e] at h; exact h
  · unfold kn at h
    rw [if_neg n1, if_neg n2, if_neg n3, if_neg n4, if_neg n5, if_neg n6] at h
    exact h
theorem sgC_fig (V : Nat → Int32) (len p : Nat) : fig (sgC V len p) = fgv V len p := by
  unfold sgC fgv
  by_cases h : p < len
  · rw [if_pos h, if_pos h]
  · rw [if_neg h, if_neg h]
    decide
theorem sgC_kn (V : Nat → Int32) (len p : Nat) : kn (sgC V len p) = kdv V len p := by
  unfold sgC kdv
  by_cases h : p < len
  · rw [if_pos h, if_pos h]
  · rw [if_neg h, if_neg h]
    decide
theorem sgC_is {V : Nat → Int32} {len p : Nat} {x : Int32} (hx : ¬ (256 : Int32) = x) : sgC V len p = x ↔ isS V len p x = true := by
  unfold sgC isS
  by_cases h : p < len
  · rw [if_pos h]
    simp [h]
  · rw [if_neg h]
    simp [h, hx]
theorem fI_t {n : Nat} (h : n < 10) : fI n = nI n := if_pos h
theorem fI_9 {n : Nat} (h : n ≤ 10) : fI n = -9 ↔ n = 10 := by
  unfold fI
  by_cases h1 : n < 10
  · rw [if_pos h1]
    exact ⟨fun z => absurd z (nI_ne9 (by omega)), fun z => by omega⟩
  · rw [if_neg h1]
    exact ⟨fun _ => by omega, fun _ => rfl⟩
theorem kI_9 {n : Nat} (h : n ≤ 6) : kI n = -9 ↔ n = 6 := by
  unfold kI
  by_cases h1 : n < 6
  · rw [if_pos h1]
    exact ⟨fun z => absurd z (nI_ne9 (by omega)), fun z => by omega⟩
  · rw [if_neg h1]
    exact ⟨fun _ => by omega, fun _ => rfl⟩
theorem kI_t {n : Nat} (h : n < 6) : kI n = nI n := if_pos h
/-- a figure that is a track's number -/
theorem fI_trk {n m : Nat} (hn : n ≤ 10) (hm : m ≤ 7) : (¬ fI n < 0 ∧ ¬ nI m ≤ fI n) ↔ n < m := by
  by_cases h1 : n < 10
  · rw [fI_t h1]
    constructor
    · rintro ⟨_, h⟩
      exact Nat.not_le.mp (fun z => h (nI_le z (by omega)))
    · intro h
      exact ⟨nI_pos (by omega), nI_ge h (by omega)⟩
  · have : n = 10 := by omega
    subst this
    constructor
    · rintro ⟨h, _⟩
      exact absurd (show fI 10 < 0 by decide) h
    · intro h
      omega
theorem PC.trk {σ σ' : xS} {D : xP} (h : PC σ 24 D) {k z f : Nat} (h0 : ∀ j, σ' 24 j = if j = 0 then nI (pn D + 1) else σ 24 j) (h1 : ∀ j, σ' 25 j = if j = pn D then nI k else σ 25 j) (h2 : ∀ j, σ' 26 j = if j = pn D then nI z else σ 26 j) (h3 : ∀ j, σ' 27 j = if j = pn D then nI f else σ 27 j) (h4 : σ' 28 = σ 28) (h5 : σ' 29 = σ 29) : PC σ' 24 (ptrk D k z f) := by
  obtain ⟨a1, a2, a3, a4, a5⟩ := h
  refine ⟨?_, ?_, ?_, fun i hi => ?_, fun k hk => ?_⟩
  · rw [h0, if_pos rfl]
    rfl
  · rw [h0, if_neg (by decide)]
    exact a2
  · rw [h0, if_neg (by decide)]
    exact a3
  · have hi : i < pn D + 1 := hi
    show σ' 25 i = nI (nup (pk D) (pn D) k i) ∧ σ' 26 i = nI (nup (pz D) (pn D) z i) ∧ σ' 27 i = nI (nup (pf D) (pn D) f i)
    rw [h1, h2, h3]
    by_cases e : i = pn D
    · rw [if_pos e, if_pos e, if_pos e, e, nup_eq, nup_eq, nup_eq]
      exact ⟨rfl, rfl, rfl⟩
    · rw [if_neg e, if_neg e, if_neg e, nup_ne e, nup_ne e, nup_ne e]
      exact a4 i (by omega)
  · show σ' 28 k = nI (po D k) ∧ σ' 29 k = nI (pu D k)
    rw [h4, h5]
    exact a5 k hk
theorem e_P_addTrack (σ : xS) (τ : xL) {D : xP} (hD : PC σ 24 D) (hn : pn D < 7) {k z f : Nat} {vk vz vf : Int32} (ek : vk = nI k) (ez : vz = nI z) (ef : vf = nI f) : Rs m_P_addTrack [.ref 24, .int vk, .int vz, .int vf] σ τ none (fun σ' => Ag [24, 25, 26, 27] σ σ' ∧ PC σ' 24 (ptrk D k z f)) := by
  intro Q h
  subst ek ez ef
  have h0 := hD.1
  refine ev_go 100 [] ?_
  refine br_f (by rw [h0]; exact nI_ge (b := 7) hn (by decide)) ?_
  refine ⟨7, rfl, by rw [h0]; exact q_in hn (by decide), ?_⟩
  refine ⟨7, rfl, by show vp_in (σ 24 0) 7; rw [h0]; exact q_in hn (by decide), ?_⟩
  refine ⟨7, rfl, by show vp_in (σ 24 0) 7; rw [h0]; exact q_in hn (by decide), ?_⟩
  have e : (σ 24 0).toNatClampNeg = pn D := by rw [h0]; exact cl7 (by omega)
  have key : ∀ σ', σ' = x_row (x_row (x_row (x_row σ 25 (upd (σ 25) (σ 24 0).toNatClampNeg (nI k))) 26 (upd (σ 26) (σ 24 0).toNatClampNeg (nI z))) 27 (upd (σ 27) (σ 24 0).toNatClampNeg (nI f))) 24 (upd (σ 24) 0 (σ 24 0 + 1)) → Ag [24, 25, 26, 27] σ σ' ∧ PC σ' 24 (ptrk D k z f) := by
    intro σ' es
    refine ⟨by rw [es]; exact (((Ag.refl.row (by decide)).row (by decide)).row (by decide)).row (by decide), hD.trk (fun j => ?_) (fun j => ?_) (fun j => ?_) (fun j => ?_) ?_ ?_⟩
    · rw [es, h0, nI_1]
      rfl
    · rw [es, e]
      rfl
    · rw [es, e]
      rfl
    · rw [es, e]
      rfl
    · rw [es]
      rfl
    · rw [es]
      rfl
  exact h _ (key _ rfl)
