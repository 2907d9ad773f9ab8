/-! THE RELATION between the class's cells and the model's -/
/-- a pass: tracks, crossings, wind; kinds, sizes, fills; overs, unders -/
abbrev xP := Nat × Nat × Nat × (Nat → Nat) × (Nat → Nat) × (Nat → Nat) × (Nat → Nat) × (Nat → Nat)
abbrev pn (P : xP) : Nat := P.1
abbrev pc (P : xP) : Nat := P.2.1
abbrev pw (P : xP) : Nat := P.2.2.1
abbrev pk (P : xP) : Nat → Nat := P.2.2.2.1
abbrev pz (P : xP) : Nat → Nat := P.2.2.2.2.1
abbrev pf (P : xP) : Nat → Nat := P.2.2.2.2.2.1
abbrev po (P : xP) : Nat → Nat := P.2.2.2.2.2.2.1
abbrev pu (P : xP) : Nat → Nat := P.2.2.2.2.2.2.2
/-- a pass of the class, at the object o -/
def PC (σ : xS) (o : Nat) (P : xP) : Prop := σ o 0 = nI (pn P) ∧ σ o 1 = nI (pc P) ∧ σ o 2 = nI (pw P) ∧ (∀ i, i < pn P → σ (o + 1) i = nI (pk P i) ∧ σ (o + 2) i = nI (pz P i) ∧ σ (o + 3) i = nI (pf P i)) ∧ ∀ k, k < pc P → σ (o + 4) k = nI (po P k) ∧ σ (o + 5) k = nI (pu P k)
/-- the model's pass -/
def PM (σ : xS) (P : xP) : Prop := σ 67 10 = nI (pn P) ∧ σ 67 14 = nI (pc P) ∧ σ 67 17 = nI (pw P) ∧ (∀ i, i < pn P → σ 74 i = nI (pk P i) ∧ σ 75 i = nI (pz P i) ∧ σ 76 i = nI (pf P i)) ∧ ∀ k, k < pc P → σ 77 k = nI (po P k) ∧ σ 78 k = nI (pu P k)
def PV (P : xP) : Prop := pn P ≤ 7 ∧ pc P ≤ 16 ∧ pw P ≤ 1 ∧ (∀ i, i < pn P → pk P i ≤ 5 ∧ pz P i ≤ 9 ∧ pf P i ≤ 10) ∧ ∀ k, k < pc P → po P k < pn P ∧ pu P k < pn P ∧ po P k ≠ pu P k
def RelR (σ : xS) : Prop := σ 1 2 = 0 ∧ ∀ r, r < 6 → ((σ 9 r = -1 ∧ σ 69 r = -9) ∨ ∃ n, n ≤ 40 ∧ σ 9 r = nI n ∧ σ 69 r = nI n) ∧ ∀ i, i < 40 → σ (3 + r) i = σ 70 (40 * r + i)
def RelT (σ : xS) : Prop := σ 10 2 = 32 ∧ ∀ r, r < 4 → ((σ 16 r = -1 ∧ σ 72 r = -9) ∨ ∃ n, n ≤ 80 ∧ σ 16 r = nI n ∧ σ 72 r = nI n) ∧ ∀ i, i < 80 → σ (12 + r) i = σ 73 (80 * r + i)
def RelK (σ : xS) (P : xP) : Prop := ∀ k, k < 3 → (σ (49 + 6 * k) 0 = 0 ∧ σ 84 (42 * k) = -9) ∨ ∃ P', PC σ (49 + 6 * k) P' ∧ PV P' ∧ pn P' = pn P ∧ 0 < pn P ∧ (∀ i, i < pn P → pk P' i = pk P i ∧ pz P' i = pz P i) ∧ σ 84 (42 * k) = nI (pc P') ∧ σ 84 (42 * k + 1) = nI (pw P') ∧ (∀ i, i < pn P → σ 84 (42 * k + 2 + i) = nI (pf P' i)) ∧ ∀ j, j < pc P' → σ 84 (42 * k + 9 + j) = nI (po P' j) ∧ σ 84 (42 * k + 25 + j) = nI (pu P' j)
def RelA (σ : xS) (τ : xL) : Prop := σ 0 8 = σ 67 2 ∧ σ 0 11 = σ 67 0 ∧ (∀ f, f < 6 → σ 48 f = σ 68 f) ∧ τ 0 9 = τ 67 3 ∧ τ 0 10 = τ 67 4
def RelP (σ : xS) : Prop := ∃ P, PC σ 17 P ∧ PM σ P ∧ PV P ∧ RelK σ P
def Rel (σ : xS) (τ : xL) : Prop := RelR σ ∧ RelT σ ∧ RelP σ ∧ RelA σ τ
/-- the class's method, then the model's: the same answer, and the relation again -/
def Pair (MS MM : xM) (as : List Value) : Prop := ∀ σ τ, Rel σ τ → Ev MS 0 (x_loc (.ref 0 :: as) MS.2.2.1) [] x_g σ τ (fun r1 g1 σ1 τ1 => g1 = x_g ∧ Ev MM 0 (x_loc (.ref 67 :: as) MM.2.2.1) [] x_g σ1 τ1 (fun r2 g2 σ2 τ2 => g2 = x_g ∧ r1 = r2 ∧ (∃ v, r1 = some v) ∧ Rel σ2 τ2))
theorem RelR.congr {σ σ' : xS} (h : RelR σ) (h1 : σ' 1 2 = σ 1 2) (h2 : ∀ q, 3 ≤ q → q ≤ 9 → σ' q = σ q) (h3 : σ' 69 = σ 69) (h4 : σ' 70 = σ 70) : RelR σ' := by
  refine ⟨by rw [h1]; exact h.1, fun r hr => ?_⟩
  rw [h2 9 (by omega) (by omega), h3, h4, h2 (3 + r) (by omega) (by omega)]
  exact h.2 r hr
theorem RelT.congr {σ σ' : xS} (h : RelT σ) (h1 : σ' 10 2 = σ 10 2) (h2 : ∀ q, 12 ≤ q → q ≤ 16 → σ' q = σ q) (h3 : σ' 72 = σ 72) (h4 : σ' 73 = σ 73) : RelT σ' := by
  refine ⟨by rw [h1]; exact h.1, fun r hr => ?_⟩
  rw [h2 16 (by omega) (by omega), h3, h4, h2 (12 + r) (by omega) (by omega)]
  exact h.2 r hr
theorem PC.congr {σ σ' : xS} {o : Nat} {P : xP} (h : PC σ o P) (h1 : ∀ q, o ≤ q → q ≤ o + 5 → σ' q = σ q) : PC σ' o P := by
  unfold PC
  rw [h1 o (by omega) (by omega), h1 (o + 1) (by omega) (by omega), h1 (o + 2) (by omega) (by omega), h1 (o + 3) (by omega) (by omega), h1 (o + 4) (by omega) (by omega), h1 (o + 5) (by omega) (by omega)]
  exact h
theorem PM.congr {σ σ' : xS} {P : xP} (h : PM σ P) (h1 : σ' 67 10 = σ 67 10) (h2 : σ' 67 14 = σ 67 14) (h3 : σ' 67 17 = σ 67 17) (h4 : ∀ q, 74 ≤ q → q ≤ 78 → σ' q = σ q) : PM σ' P := by
  unfold PM
  rw [h1, h2, h3, h4 74 (by omega) (by omega), h4 75 (by omega) (by omega), h4 76 (by omega) (by omega), h4 77 (by omega) (by omega), h4 78 (by omega) (by omega)]
  exact h
theorem RelK.congr {σ σ' : xS} {P : xP} (h : RelK σ P) (h1 : ∀ q, 49 ≤ q → q ≤ 66 → σ' q = σ q) (h2 : σ' 84 = σ 84) : RelK σ' P := by
  intro k hk
  rw [h1 (49 + 6 * k) (by omega) (by omega), h2]
  rcases h k hk with h | ⟨P', a, b⟩
  · exact Or.inl h
  · exact Or.inr ⟨P', a.congr (fun q q1 q2 => h1 q (by omega) (by omega)), b⟩
theorem RelP.congr {σ σ' : xS} (h : RelP σ) (h1 : ∀ q, 17 ≤ q → q ≤ 22 → σ' q = σ q) (h2 : ∀ q, 49 ≤ q → q ≤ 66 → σ' q = σ q) (h3 : σ' 67 10 = σ 67 10) (h4 : σ' 67 14 = σ 67 14) (h5 : σ' 67 17 = σ 67 17) (h6 : ∀ q, 74 ≤ q → q ≤ 78 → σ' q = σ q) (h7 : σ' 84 = σ 84) : RelP σ' := by
  obtain ⟨P, a, b, c, d⟩ := h
  exact ⟨P, a.congr (fun q q1 q2 => h1 q (by omega) (by omega)), b.congr h3 h4 h5 h6, c, d.congr h2 h7⟩
/-- a store that differs from one of the relation's in scratch alone -/
def Scr (σ σ' : xS) : Prop := (∀ q, q ≤ 22 → q ≠ 0 → σ' q = σ q) ∧ (∀ q, 49 ≤ q → q ≤ 66 → σ' q = σ q) ∧ σ' 69 = σ 69 ∧ σ' 70 = σ 70 ∧ σ' 72 = σ 72 ∧ σ' 73 = σ 73 ∧ (∀ q, 74 ≤ q → q ≤ 78 → σ' q = σ q) ∧ σ' 84 = σ 84 ∧ σ' 67 10 = σ 67 10 ∧ σ' 67 14 = σ 67 14 ∧ σ' 67 17 = σ 67 17
theorem Rel.scr {σ σ' : xS} {τ τ' : xL} (h : Rel σ τ) (hs : Scr σ σ') (hA : RelA σ' τ') : Rel σ' τ' := by
  obtain ⟨h1, h2, h3, -⟩ := h
  obtain ⟨a1, a2, a3, a4, a5, a6, a7, a8, a9, a10, a11⟩ := hs
  exact ⟨h1.congr (by rw [a1 1 (by omega) (by omega)]) (fun q q1 q2 => a1 q (by omega) (by omega)) a3 a4, h2.congr (by rw [a1 10 (by omega) (by omega)]) (fun q q1 q2 => a1 q (by omega) (by omega)) a5 a6, h3.congr (fun q q1 q2 => a1 q (by omega) (by omega)) a2 a9 a10 a11 a7 a8, hA⟩
theorem RelA.find {σ : xS} {τ : xL} (h : RelA σ τ) {f : Nat} (hf : f < 6) : RelA (m_fnd (c_ref σ (nI f)) (nI f)) τ := by
  obtain ⟨h1, h2, h3, h4, h5⟩ := h
  have hc : (nI f).toNatClampNeg = f := nI_clamp (by omega)
  refine ⟨?_, ?_, ?_, h4, h5⟩
  · simp [m_fnd, c_ref, x_row, upd, h1]
  · simp [m_fnd, c_ref, x_row, upd]
  · intro g hg
    simp only [m_fnd, c_ref, x_row, upd, hc]
    by_cases e : g = f
    · simp [e, h3 f hf, upd]
    · simp [e, h3 g hg, upd]
theorem Scr.find {σ : xS} (f : Int32) : Scr σ (m_fnd (c_ref σ f) f) := by
  refine ⟨fun q q1 q2 => ?_, fun q q1 q2 => ?_, rfl, rfl, rfl, rfl, fun q q1 q2 => ?_, rfl, rfl, rfl, rfl⟩
  · simp [m_fnd, c_ref, x_row, show q ≠ 68 by omega, show q ≠ 67 by omega, show q ≠ 48 by omega, q2]
  · simp [m_fnd, c_ref, x_row, show q ≠ 68 by omega, show q ≠ 67 by omega, show q ≠ 48 by omega, show q ≠ 0 by omega]
  · simp [m_fnd, c_ref, x_row, show q ≠ 68 by omega, show q ≠ 67 by omega, show q ≠ 48 by omega, show q ≠ 0 by omega]
theorem Rel.find {σ : xS} {τ : xL} (h : Rel σ τ) {f : Nat} (hf : f < 6) : Rel (m_fnd (c_ref σ (nI f)) (nI f)) τ := h.scr (Scr.find _) (h.2.2.2.find hf)
/-- a value told by both -/
def c_told (σ : xS) (v : Int32) : xS := x_row σ 0 (upd (σ 0) 8 v)
def m_told (σ : xS) (v : Int32) : xS := x_row σ 67 (upd (σ 67) 2 v)
theorem RelA.told {σ : xS} {τ : xL} (h : RelA σ τ) (v : Int32) : RelA (m_told (c_told σ v) v) τ := by
  obtain ⟨h1, h2, h3, h4, h5⟩ := h
  refine ⟨?_, ?_, fun f hf => ?_, h4, h5⟩
  · simp [m_told, c_told, x_row, upd]
  · simp [m_told, c_told, x_row, upd, h2]
  · simp [m_told, c_told, x_row, h3 f hf]
theorem Scr.told {σ : xS} (v : Int32) : Scr σ (m_told (c_told σ v) v) := by
  refine ⟨fun q q1 q2 => ?_, fun q q1 q2 => ?_, rfl, rfl, rfl, rfl, fun q q1 q2 => ?_, rfl, rfl, rfl, rfl⟩
  · simp [m_told, c_told, x_row, show q ≠ 67 by omega, q2]
  · simp [m_told, c_told, x_row, show q ≠ 67 by omega, show q ≠ 0 by omega]
  · simp [m_told, c_told, x_row, show q ≠ 67 by omega, show q ≠ 0 by omega]
theorem Rel.told {σ : xS} {τ : xL} (h : Rel σ τ) (v : Int32) : Rel (m_told (c_told σ v) v) τ := h.scr (Scr.told v) (h.2.2.2.told v)
/-- an int is below 0, at least n, or a number below n -/
theorem q_ix (x : Int32) (n : Nat) (hn : n < 2 ^ 31) : (x < 0 ∨ nI n ≤ x) ∨ ∃ j, j < n ∧ x = nI j := by
  rcases pk_ix x hn with h | h | h
  · exact Or.inl (Or.inl h)
  · exact Or.inl (Or.inr h)
  · exact Or.inr h
theorem q_lt_le (x : Int32) (n : Nat) (hn : n + 1 < 2 ^ 31) : nI n < x ↔ nI (n + 1) ≤ x := by
  rw [Int32.lt_iff_toInt_lt, Int32.le_iff_toInt_le, nI_toInt (by omega), nI_toInt (by omega)]
  omega
theorem q_5 (x : Int32) : (5 : Int32) < x ↔ nI 6 ≤ x := q_lt_le x 5 (by decide)
theorem q_3 (x : Int32) : (3 : Int32) < x ↔ nI 4 ≤ x := q_lt_le x 3 (by decide)
