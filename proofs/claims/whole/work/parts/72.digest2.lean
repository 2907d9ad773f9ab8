/-- numbers mixed in -/
def fo (f : Nat → Int32) (h : Int64) : Nat → Int64
  | 0 => h
  | n + 1 => 31 * fo f h n + (f n).toInt64
theorem fo_congr {f g : Nat → Int32} {h : Int64} : ∀ {n : Nat}, (∀ i, i < n → f i = g i) → fo f h n = fo g h n
  | 0, _ => rfl
  | n + 1, e => by
    simp only [fo]
    rw [fo_congr (fun i hi => e i (by omega)), e n (by omega)]
def gi (g : Nat → Int64 → Int64) (h : Int64) : Nat → Int64
  | 0 => h
  | n + 1 => g n (gi g h n)
theorem gi_congr {g g' : Nat → Int64 → Int64} {h : Int64} : ∀ {n : Nat}, (∀ i h, i < n → g i h = g' i h) → gi g h n = gi g' h n
  | 0, _ => rfl
  | n + 1, e => by
    simp only [gi]
    rw [gi_congr (fun i h hi => e i h (by omega)), e n _ (by omega)]
def mxd (τ : xL) (h : Int64) : xL := x_row τ 67 (vp_updL (τ 67) 35 h)
theorem mxd_mxd (τ : xL) (h h' : Int64) : x_row (mxd τ h) 67 (vp_updL (mxd τ h 67) 35 h') = mxd τ h' := by
  unfold mxd
  rw [x_row_row, x_row_eq]
  congr 1
  funext j
  by_cases e : j = 35
  · simp [vp_updL, e]
  · simp [vp_updL, e]
theorem mxd_at (τ : xL) (h : Int64) : mxd τ h 67 35 = h := by
  unfold mxd
  rw [x_row_eq]
  simp [vp_updL]
theorem e_M_mix (σ : xS) (τ : xL) (h : Int64) (v : Int32) : Rn m_M_mix [.ref 67, .int v] σ (mxd τ h) none σ (mxd τ (31 * h + v.toInt64)) := by
  intro Q hq
  refine ev_go 100 [] ?_
  show Q none x_g σ (x_row (mxd τ h) 67 (vp_updL (mxd τ h 67) 35 (31 * mxd τ h 67 35 + v.toInt64)))
  rw [mxd_at, mxd_mxd]
  exact hq
theorem Rel.mxd {σ : xS} {τ : xL} (hR : Rel σ τ) (h : Int64) : Rel σ (mxd τ h) := by
  obtain ⟨a, b, c, d1, d2, d3, d4, d5⟩ := hR
  refine ⟨a, b, c, d1, d2, d3, ?_, ?_⟩
  · show τ 0 9 = vp_updL (τ 67) 35 h 3
    rw [d4]
    rfl
  · show τ 0 10 = vp_updL (τ 67) 35 h 4
    rw [d5]
    rfl
/-- how often a row's loop goes round -/
def rl (x : Int32) : Nat := x.toNatClampNeg
def kv (σ : xS) (k : Nat) : Int32 := if ¬ σ (49 + 6 * k) 0 ≤ 0 then σ (49 + 6 * k) 1 else -1
def dg1 (σ : xS) (P : xP) : Int64 := 31 * fo (hmC σ P) 17 8 + (nI (pw P)).toInt64
def dg2 (σ : xS) (P : xP) : Int64 := gi (fun i h => fo (tv P i) h 5) (dg1 σ P) (pn P)
def dg3 (σ : xS) (P : xP) : Int64 := fo (fun k => nI (10 * po P k + pu P k)) (dg2 σ P) (pc P)
def dg4 (σ : xS) (P : xP) : Int64 := fo (kv σ) (dg3 σ P) 3
def dgR (σ : xS) (h : Int64) : Int64 := gi (fun r h => fo (fun i => σ (3 + r) i) (31 * h + (σ 9 r).toInt64) (rl (σ 9 r))) h 6
def dgT (σ : xS) (h : Int64) : Int64 := gi (fun r h => fo (fun i => σ (12 + r) i) (31 * h + (σ 16 r).toInt64) (rl (σ 16 r))) h 4
theorem rl_m1 : rl (-1) = 0 := by decide
theorem rl_nI {n : Nat} (h : n < 2 ^ 31) : rl (nI n) = n := nI_clamp h
theorem e_H_addTo1 (σ : xS) (τ : xL) (hR : RelR σ) (h : Int64) : Rn m_H_addTo [.ref 1, .long h] σ τ (some (.long (dgR σ h))) σ τ := by
  intro Q hq
  refine ev_go 100 [5] ?_
  have key := ev_lj (α := Value) (M := m_H_addTo) (pc := 5) (st := []) (g := x_g) (Q := Q) (τ := τ) 6 (fun r u => [.ref 1, .long h, .null, .long (gi (fun r h => fo (fun i => σ (3 + r) i) (31 * h + (σ 9 r).toInt64) (rl (σ 9 r))) h r), .null, .int (nI r), u]) (fun _ σ' => σ' = σ) (fun r hr u σ1 hI kk => ?_) (fun u σ1 hI => ?_)
  · exact key _ σ rfl
  · subst hI
    generalize hg : gi (fun r h => fo (fun i => σ1 (3 + r) i) (31 * h + (σ1 9 r).toInt64) (rl (σ1 9 r))) h r = H at *
    have e9 : σ1 9 (nI r).toNatClampNeg = σ1 9 r := by rw [cl7 (by omega)]
    refine ev_go 100 [33] ?_
    refine ⟨16, 6, rfl, Or.inl rfl, ?_⟩
    refine br_f (nI_ge (b := 6) hr (by decide)) ?_
    refine ⟨6, rfl, q_in hr (by decide), ?_⟩
    rw [e9]
    have fin : ∀ v : Value, Ev m_H_addTo 5 [.ref 1, .long h, .null, .long (fo (fun i => σ1 (3 + r) i) (31 * H + (σ1 9 r).toInt64) (rl (σ1 9 r))), .null, .int (nI r + 1), v] [] x_g σ1 τ Q := fun v => by
      rw [nI_1]
      have := kk v σ1 rfl
      simp only [gi, hg] at this
      exact this
    have inner : ∀ n, n ≤ 40 → rl (σ1 9 r) = n → (∀ i, i < n → ¬ σ1 9 r ≤ nI i) → σ1 9 r ≤ nI n → Ev m_H_addTo 33 [.ref 1, .long h, .null, .long (31 * H + (σ1 9 r).toInt64), .null, .int (nI r), .int (nI 0)] [] x_g σ1 τ Q := by
      intro n hn e1 e2 e3
      refine ev_iter (M := m_H_addTo) (pc := 33) (st := []) (g := x_g) (Q := Q) n (fun i => ([.ref 1, .long h, .null, .long (fo (fun i => σ1 (3 + r) i) (31 * H + (σ1 9 r).toInt64) i), .null, .int (nI r), .int (nI i)], σ1, τ)) (fun i hi kk2 => ?_) ?_
      · dsimp only at kk2 ⊢
        refine ev_go 100 [33] ?_
        refine ⟨6, rfl, q_in hr (by decide), ?_⟩
        rw [e9]
        refine br_f (e2 i hi) ?_
        refine ⟨18, 6, 3 + r, rfl, Or.inl rfl, q_in hr (by decide), by rw [cl7 (by omega)]; exact rf_rows r hr, ?_⟩
        refine ⟨40, sh_rows r hr, q_in (by omega) (by decide), ?_⟩
        rw [cl7 (by omega)]
        show Ev m_H_addTo 33 [.ref 1, .long h, .null, .long (31 * fo (fun i => σ1 (3 + r) i) (31 * H + (σ1 9 r).toInt64) i + (σ1 (3 + r) i).toInt64), .null, .int (nI r), .int (nI i + 1)] [] x_g σ1 τ Q
        rw [nI_1]
        exact kk2
      · dsimp only
        refine ev_go 100 [5] ?_
        refine ⟨6, rfl, q_in hr (by decide), ?_⟩
        rw [e9]
        refine br_t e3 ?_
        have := fin (.int (nI n))
        rw [e1] at this
        exact this
    rcases hR.size hr with ⟨a, -⟩ | ⟨n, hn, a, -⟩
    · exact inner 0 (by omega) (by rw [a]; decide) (fun i hi => absurd hi (Nat.not_lt_zero i)) (by rw [a]; decide)
    · exact inner n hn (by rw [a]; exact rl_nI (by omega)) (fun i hi => by rw [a]; exact nI_ge hi (by omega)) (by rw [a]; exact nI_le (Nat.le_refl _) (by omega))
  · subst hI
    refine ev_go 100 [5] ?_
    refine ⟨16, 6, rfl, Or.inl rfl, ?_⟩
    refine br_t (nI_le (a := 6) (b := 6) (Nat.le_refl _) (by decide)) ?_
    exact hq
theorem e_H_addTo10 (σ : xS) (τ : xL) (hR : RelT σ) (h : Int64) : Rn m_H_addTo [.ref 10, .long h] σ τ (some (.long (dgT σ h))) σ τ := by
  intro Q hq
  refine ev_go 100 [5] ?_
  have key := ev_lj (α := Value) (M := m_H_addTo) (pc := 5) (st := []) (g := x_g) (Q := Q) (τ := τ) 4 (fun r u => [.ref 10, .long h, .null, .long (gi (fun r h => fo (fun i => σ (12 + r) i) (31 * h + (σ 16 r).toInt64) (rl (σ 16 r))) h r), .null, .int (nI r), u]) (fun _ σ' => σ' = σ) (fun r hr u σ1 hI kk => ?_) (fun u σ1 hI => ?_)
  · exact key _ σ rfl
  · subst hI
    generalize hg : gi (fun r h => fo (fun i => σ1 (12 + r) i) (31 * h + (σ1 16 r).toInt64) (rl (σ1 16 r))) h r = H at *
    have e9 : σ1 16 (nI r).toNatClampNeg = σ1 16 r := by rw [cl7 (by omega)]
    refine ev_go 100 [33] ?_
    refine ⟨16, 4, rfl, Or.inl rfl, ?_⟩
    refine br_f (nI_ge (b := 4) hr (by decide)) ?_
    refine ⟨4, rfl, q_in hr (by decide), ?_⟩
    rw [e9]
    have fin : ∀ v : Value, Ev m_H_addTo 5 [.ref 10, .long h, .null, .long (fo (fun i => σ1 (12 + r) i) (31 * H + (σ1 16 r).toInt64) (rl (σ1 16 r))), .null, .int (nI r + 1), v] [] x_g σ1 τ Q := fun v => by
      rw [nI_1]
      have := kk v σ1 rfl
      simp only [gi, hg] at this
      exact this
    have inner : ∀ n, n ≤ 80 → rl (σ1 16 r) = n → (∀ i, i < n → ¬ σ1 16 r ≤ nI i) → σ1 16 r ≤ nI n → Ev m_H_addTo 33 [.ref 10, .long h, .null, .long (31 * H + (σ1 16 r).toInt64), .null, .int (nI r), .int (nI 0)] [] x_g σ1 τ Q := by
      intro n hn e1 e2 e3
      refine ev_iter (M := m_H_addTo) (pc := 33) (st := []) (g := x_g) (Q := Q) n (fun i => ([.ref 10, .long h, .null, .long (fo (fun i => σ1 (12 + r) i) (31 * H + (σ1 16 r).toInt64) i), .null, .int (nI r), .int (nI i)], σ1, τ)) (fun i hi kk2 => ?_) ?_
      · dsimp only at kk2 ⊢
        refine ev_go 100 [33] ?_
        refine ⟨4, rfl, q_in hr (by decide), ?_⟩
        rw [e9]
        refine br_f (e2 i hi) ?_
        refine ⟨18, 4, 12 + r, rfl, Or.inl rfl, q_in hr (by decide), by rw [cl7 (by omega)]; exact rf_texts r hr, ?_⟩
        refine ⟨80, sh_texts r hr, q_in (by omega) (by decide), ?_⟩
        rw [cl7 (by omega)]
        show Ev m_H_addTo 33 [.ref 10, .long h, .null, .long (31 * fo (fun i => σ1 (12 + r) i) (31 * H + (σ1 16 r).toInt64) i + (σ1 (12 + r) i).toInt64), .null, .int (nI r), .int (nI i + 1)] [] x_g σ1 τ Q
        rw [nI_1]
        exact kk2
      · dsimp only
        refine ev_go 100 [5] ?_
        refine ⟨4, rfl, q_in hr (by decide), ?_⟩
        rw [e9]
        refine br_t e3 ?_
        have := fin (.int (nI n))
        rw [e1] at this
        exact this
    rcases hR.size hr with ⟨a, -⟩ | ⟨n, hn, a, -⟩
    · exact inner 0 (by omega) (by rw [a]; decide) (fun i hi => absurd hi (Nat.not_lt_zero i)) (by rw [a]; decide)
    · exact inner n hn (by rw [a]; exact rl_nI (by omega)) (fun i hi => by rw [a]; exact nI_ge hi (by omega)) (by rw [a]; exact nI_le (Nat.le_refl _) (by omega))
  · subst hI
    refine ev_go 100 [5] ?_
    refine ⟨16, 4, rfl, Or.inl rfl, ?_⟩
    refine br_t (nI_le (a := 4) (b := 4) (Nat.le_refl _) (by decide)) ?_
    exact hq
theorem e_S_digest (σ : xS) (τ : xL) {P : xP} (hP : PC σ 17 P) (hV : PV P) (hR : RelR σ) (hT : RelT σ) : Rn m_S_digest [.ref 0] σ τ (some (.long (dgT σ (dgR σ (dg4 σ P))))) σ τ := by
  intro Q hq
  have h7 := hV.1
  have h16 := hV.2.1
  have last : ∀ u v : Value, Ev m_S_digest 175 [.ref 0, .long (dg4 σ P), .null, u, v] [] x_g σ τ Q := by
    intro u v
    refine ev_go 100 [] ?_
    refine e_H_addTo1 σ τ hR _ _ ?_
    refine e_H_addTo10 σ τ hT _ _ ?_
    exact hq
  have four : ∀ v : Value, Ev m_S_digest 135 [.ref 0, .long (dg3 σ P), .null, .int (nI 0), v] [] x_g σ τ Q := by
    intro v
    refine ev_iter (M := m_S_digest) (pc := 135) (st := []) (g := x_g) (Q := Q) 3 (fun k => ([.ref 0, .long (fo (kv σ) (dg3 σ P) k), .null, .int (nI k), v], σ, τ)) (fun k hk kk => ?_) ?_
    · dsimp only at kk ⊢
      have go : ∀ x : Int32, x = kv σ k → Ev m_S_digest 135 [.ref 0, .long (31 * fo (kv σ) (dg3 σ P) k + x.toInt64), .null, .int (nI k + 1), v] [] x_g σ τ Q := fun x hx => by
        rw [nI_1, hx]
        exact kk
      refine ev_go 100 [135] ?_
      refine br_f (nI_ge (b := 3) hk (by decide)) ?_
      refine e_S_isKept σ τ hk _ ?_
      by_cases ht : ¬ σ (49 + 6 * k) 0 ≤ 0
      · refine br_f (xb1 ht) ?_
        have e : kv σ k = σ (49 + 6 * k) 1 := if_pos ht
        rcases k3 hk with rfl | rfl | rfl
        · refine ⟨19, 3, 49, rfl, Or.inr rfl, q_in (i := 0) (by decide) (by decide), rfl, ?_⟩
          exact go _ e.symm
        · refine ⟨19, 3, 55, rfl, Or.inr rfl, q_in (i := 1) (by decide) (by decide), rfl, ?_⟩
          exact go _ e.symm
        · refine ⟨19, 3, 61, rfl, Or.inr rfl, q_in (i := 2) (by decide) (by decide), rfl, ?_⟩
          exact go _ e.symm
      · refine br_t (xb0 ht) ?_
        have e : kv σ k = -1 := if_neg ht
        exact go _ e.symm
    · dsimp only
      refine ev_go 100 [175] ?_
      refine br_t (nI_le (a := 3) (b := 3) (Nat.le_refl _) (by decide)) ?_
      exact last _ _
  have three : ∀ v : Value, Ev m_S_digest 100 [.ref 0, .long (dg2 σ P), .null, .int (nI 0), v] [] x_g σ τ Q := by
    intro v
    refine ev_iter (M := m_S_digest) (pc := 100) (st := []) (g := x_g) (Q := Q) (pc P) (fun k => ([.ref 0, .long (fo (fun k => nI (10 * po P k + pu P k)) (dg2 σ P) k), .null, .int (nI k), v], σ, τ)) (fun k hk kk => ?_) ?_
    · dsimp only at kk ⊢
      refine ev_go 100 [100] ?_
      refine br_f (by rw [hP.2.1]; exact nI_ge hk (by omega)) ?_
      refine e_P_pairOf σ τ hP hV hk _ ?_
      show Ev m_S_digest 100 [.ref 0, .long (31 * fo (fun k => nI (10 * po P k + pu P k)) (dg2 σ P) k + (nI (10 * po P k + pu P k)).toInt64), .null, .int (nI k + 1), v] [] x_g σ τ Q
      rw [nI_1]
      exact kk
    · dsimp only
      refine ev_go 100 [135] ?_
      refine br_t (by rw [hP.2.1]; exact nI_le (Nat.le_refl _) (by omega)) ?_
      exact four _
  have two : ∀ v : Value, Ev m_S_digest 48 [.ref 0, .long (dg1 σ P), .null, .int (nI 0), v] [] x_g σ τ Q := by
    intro v
    refine ev_lj (α := Value) (M := m_S_digest) (pc := 48) (st := []) (g := x_g) (Q := Q) (τ := τ) (pn P) (fun i u => [.ref 0, .long (gi (fun i h => fo (tv P i) h 5) (dg1 σ P) i), .null, .int (nI i), u]) (fun _ σ' => σ' = σ) (fun i hi u σ1 hI kk => ?_) (fun u σ1 hI => ?_) v σ rfl
    · subst hI
      generalize hg : gi (fun i h => fo (tv P i) h 5) (dg1 σ1 P) i = H at *
      refine ev_go 100 [62] ?_
      refine br_f (by rw [hP.1]; exact nI_ge hi (by omega)) ?_
      refine ev_iter (M := m_S_digest) (pc := 62) (st := []) (g := x_g) (Q := Q) 5 (fun w => ([.ref 0, .long (fo (tv P i) H w), .null, .int (nI i), .int (nI w)], σ1, τ)) (fun w hw kk2 => ?_) ?_
      · dsimp only at kk2 ⊢
        refine ev_go 100 [62] ?_
        refine br_f (nI_nlt (a := 4) (by omega) (by decide)) ?_
        refine e_P_ofTrack σ1 τ hP hV hi (by omega) _ ?_
        show Ev m_S_digest 62 [.ref 0, .long (31 * fo (tv P i) H w + (tv P i w).toInt64), .null, .int (nI i), .int (nI w + 1)] [] x_g σ1 τ Q
        rw [nI_1]
        exact kk2
      · dsimp only
        refine ev_go 100 [48] ?_
        refine br_t (by decide) ?_
        show Ev m_S_digest 48 [.ref 0, .long (fo (tv P i) H 5), .null, .int (nI i + 1), .int (nI 5)] [] x_g σ1 τ Q
        rw [nI_1]
        have := kk (.int (nI 5)) σ1 rfl
        simp only [gi, hg] at this
        exact this
    · subst hI
      refine ev_go 100 [100] ?_
      refine br_t (by rw [hP.1]; exact nI_le (Nat.le_refl _) (by omega)) ?_
      exact three _
  refine ev_go 100 [6] ?_
  refine ev_iter (M := m_S_digest) (pc := 6) (st := []) (g := x_g) (Q := Q) 8 (fun w => ([.ref 0, .long (fo (hmC σ P) 17 w), .null, .int (nI w), .null], σ, τ)) (fun w hw kk => ?_) ?_
  · dsimp only at kk ⊢
    refine ev_go 100 [6] ?_
    refine br_f (nI_nlt (a := 7) (by omega) (by decide)) ?_
    refine e_S_howMany σ τ hP hV (by omega) _ ?_
    show Ev m_S_digest 6 [.ref 0, .long (31 * fo (hmC σ P) 17 w + (hmC σ P w).toInt64), .null, .int (nI w + 1), .null] [] x_g σ τ Q
    rw [nI_1]
    exact kk
  · dsimp only
    refine ev_go 100 [48] ?_
    refine br_t (by decide) ?_
    show Ev m_S_digest 48 [.ref 0, .long (31 * fo (hmC σ P) 17 8 + (σ 17 2).toInt64), .null, .int (nI 0), .null] [] x_g σ τ Q
    rw [hP.2.2.1]
    exact two _
