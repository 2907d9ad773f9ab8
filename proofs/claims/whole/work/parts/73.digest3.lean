theorem kv_M {σ : xS} {P : xP} (h : RelK σ P) {k : Nat} (hk : k < 3) : (σ 84 (42 * k) = -9 ∧ kv σ k = -1) ∨ (¬ σ 84 (42 * k) = -9 ∧ kv σ k = σ 84 (42 * k)) := by
  unfold kv
  rcases h k hk with ⟨a, b⟩ | ⟨P', a, hV, c, d, -, b, -⟩
  · exact Or.inl ⟨b, if_neg (fun z => z (by rw [a]; decide))⟩
  · have := hV.1
    have := hV.2.1
    refine Or.inr ⟨by rw [b]; exact nI_ne9 (by omega), ?_⟩
    rw [if_pos (by rw [a.1]; exact nI_nle (by omega) (by omega)), a.2.1, b]
theorem e_M_mixPass (σ : xS) (τ : xL) {P : xP} (hP : PM σ P) (hV : PV P) (hR : RelR σ) (hT : RelT σ) (hK : RelK σ P) : Rn m_M_mixPass [.ref 67] σ (mxd τ 17) none σ (mxd τ (dg4 σ P)) := by
  intro Q hq
  have h7 := hV.1
  have h16 := hV.2.1
  have four : ∀ v : Value, Ev m_M_mixPass 108 [.ref 67, .int (nI 0), v] [] x_g σ (mxd τ (dg3 σ P)) Q := by
    intro v
    refine ev_iter (M := m_M_mixPass) (pc := 108) (st := []) (g := x_g) (Q := Q) 3 (fun k => ([.ref 67, .int (nI k), v], σ, mxd τ (fo (kv σ) (dg3 σ P) k))) (fun k hk kk => ?_) ?_
    · dsimp only at kk ⊢
      refine ev_go 100 [108] ?_
      refine br_f (nI_ge (b := 3) hk (by decide)) ?_
      refine ⟨126, rfl, by rw [e42]; exact q_in (by omega) (by decide), ?_⟩
      rw [e42, cl7 (by omega)]
      rcases kv_M hK hk with ⟨a, b⟩ | ⟨a, b⟩
      · refine bn_f a ?_
        refine e_M_mix σ τ _ _ _ ?_
        show Ev m_M_mixPass 108 [.ref 67, .int (nI k + 1), v] [] x_g σ (mxd τ (31 * fo (kv σ) (dg3 σ P) k + (-1 : Int32).toInt64)) Q
        rw [nI_1, ← b]
        exact kk
      · refine bn_t a ?_
        refine ⟨126, rfl, by rw [e42]; exact q_in (by omega) (by decide), ?_⟩
        rw [e42, cl7 (by omega)]
        refine e_M_mix σ τ _ _ _ ?_
        show Ev m_M_mixPass 108 [.ref 67, .int (nI k + 1), v] [] x_g σ (mxd τ (31 * fo (kv σ) (dg3 σ P) k + (σ 84 (42 * k)).toInt64)) Q
        rw [nI_1, ← b]
        exact kk
    · dsimp only
      refine ev_go 100 [] ?_
      refine br_t (nI_le (a := 3) (b := 3) (Nat.le_refl _) (by decide)) ?_
      exact hq
  have three : ∀ v : Value, Ev m_M_mixPass 72 [.ref 67, .int (nI 0), v] [] x_g σ (mxd τ (dg2 σ P)) Q := by
    intro v
    refine ev_iter (M := m_M_mixPass) (pc := 72) (st := []) (g := x_g) (Q := Q) (pc P) (fun k => ([.ref 67, .int (nI k), v], σ, mxd τ (fo (fun k => nI (10 * po P k + pu P k)) (dg2 σ P) k))) (fun k hk kk => ?_) ?_
    · dsimp only at kk ⊢
      refine ev_go 100 [72] ?_
      refine br_f (by rw [hP.2.1]; exact nI_ge hk (by omega)) ?_
      refine ⟨16, rfl, q_in (by omega) (by decide), ?_⟩
      rw [hP.o.get hk (by omega)]
      refine ⟨16, rfl, q_in (by omega) (by decide), ?_⟩
      rw [hP.u.get hk (by omega)]
      refine e_M_mix σ τ _ _ _ ?_
      show Ev m_M_mixPass 72 [.ref 67, .int (nI k + 1), v] [] x_g σ (mxd τ (31 * fo (fun k => nI (10 * po P k + pu P k)) (dg2 σ P) k + ((10 : Int32) * nI (po P k) + nI (pu P k)).toInt64)) Q
      rw [nI_1, nI10]
      exact kk
    · dsimp only
      refine ev_go 100 [108] ?_
      refine br_t (by rw [hP.2.1]; exact nI_le (Nat.le_refl _) (by omega)) ?_
      exact four _
  have two : ∀ v : Value, Ev m_M_mixPass 33 [.ref 67, .int (nI 0), v] [] x_g σ (mxd τ (dg1 σ P)) Q := by
    intro v
    have key : ∀ k, k ≤ pn P → ∀ v : Value, Ev m_M_mixPass 33 [.ref 67, .int (nI (pn P - k)), v] [] x_g σ (mxd τ (gi (fun i h => fo (tv P i) h 5) (dg1 σ P) (pn P - k))) Q := by
      intro k
      induction k with
      | zero =>
        intro _ v
        rw [Nat.sub_zero]
        refine ev_go 100 [72] ?_
        refine br_t (by rw [hP.1]; exact nI_le (Nat.le_refl _) (by omega)) ?_
        exact three _
      | succ k ih =>
        intro hk v
        have ih := ih (by omega)
        rw [show pn P - k = pn P - (k + 1) + 1 by omega] at ih
        generalize hi' : pn P - (k + 1) = i at *
        have hi : i < pn P := by omega
        simp only [gi] at ih
        generalize gi (fun i h => fo (tv P i) h 5) (dg1 σ P) i = H at *
        refine ev_go 100 [43] ?_
        refine br_f (by rw [hP.1]; exact nI_ge hi (by omega)) ?_
        refine ev_iter (M := m_M_mixPass) (pc := 43) (st := []) (g := x_g) (Q := Q) 5 (fun w => ([.ref 67, .int (nI i), .int (nI w)], σ, mxd τ (fo (tv P i) H w))) (fun w hw kk2 => ?_) ?_
        · dsimp only at kk2 ⊢
          refine ev_go 100 [43] ?_
          refine br_f (nI_ge (b := 5) hw (by decide)) ?_
          refine e_M_trackOf σ _ hP hV hi (by omega) _ ?_
          refine e_M_mix σ τ _ _ _ ?_
          show Ev m_M_mixPass 43 [.ref 67, .int (nI i), .int (nI w + 1)] [] x_g σ (mxd τ (31 * fo (tv P i) H w + (tv P i w).toInt64)) Q
          rw [nI_1]
          exact kk2
        · dsimp only
          refine ev_go 100 [33] ?_
          refine br_t (by decide) ?_
          show Ev m_M_mixPass 33 [.ref 67, .int (nI i + 1), .int (nI 5)] [] x_g σ (mxd τ (fo (tv P i) H 5)) Q
          rw [nI_1]
          exact ih _
    have := key (pn P) (Nat.le_refl _) v
    rw [Nat.sub_self] at this
    exact this
  refine ev_go 100 [2] ?_
  refine ev_iter (M := m_M_mixPass) (pc := 2) (st := []) (g := x_g) (Q := Q) 8 (fun w => ([.ref 67, .int (nI w), .null], σ, mxd τ (fo (hmC σ P) 17 w))) (fun w hw kk => ?_) ?_
  · dsimp only at kk ⊢
    refine ev_go 100 [2] ?_
    refine br_f (nI_ge (b := 8) hw (by decide)) ?_
    refine e_M_counted σ _ hP hV hR hT hK (by omega) _ ?_
    refine e_M_mix σ τ _ _ _ ?_
    show Ev m_M_mixPass 2 [.ref 67, .int (nI w + 1), .null] [] x_g σ (mxd τ (31 * fo (hmC σ P) 17 w + (hmC σ P w).toInt64)) Q
    rw [nI_1]
    exact kk
  · dsimp only
    refine ev_go 100 [33] ?_
    refine br_t (by decide) ?_
    refine e_M_mix σ τ _ _ _ ?_
    show Ev m_M_mixPass 33 [.ref 67, .int (nI 0), .null] [] x_g σ (mxd τ (31 * fo (hmC σ P) 17 8 + (σ 67 17).toInt64)) Q
    rw [hP.2.2.1]
    exact two _
theorem e40 (r i : Nat) : (40 : Int32) * nI r + nI i = nI (40 * r + i) := by rw [show (40 : Int32) = nI 40 from rfl, pk_mul, nI_add]
theorem e80 (r i : Nat) : (80 : Int32) * nI r + nI i = nI (80 * r + i) := by rw [show (80 : Int32) = nI 80 from rfl, pk_mul, nI_add]
theorem e_M_digest (σ : xS) (τ : xL) {P : xP} (hP : PM σ P) (hV : PV P) (hR : RelR σ) (hT : RelT σ) (hK : RelK σ P) : Rn m_M_digest [.ref 67] σ τ (some (.long (dgT σ (dgR σ (dg4 σ P))))) σ (mxd τ (dgT σ (dgR σ (dg4 σ P)))) := by
  intro Q hq
  have texts : ∀ k, k ≤ 4 → ∀ v : Value, Ev m_M_digest 85 [.ref 67, .int (nI (4 - k)), v] [] x_g σ (mxd τ (gi (fun r h => fo (fun i => σ (12 + r) i) (31 * h + (σ 16 r).toInt64) (rl (σ 16 r))) (dgR σ (dg4 σ P)) (4 - k))) Q := by
    intro k
    induction k with
    | zero =>
      intro _ v
      rw [Nat.sub_zero]
      refine ev_go 100 [] ?_
      refine br_t (by decide) ?_
      show Q (some (.long (mxd τ (dgT σ (dgR σ (dg4 σ P))) 67 35))) x_g σ (mxd τ (dgT σ (dgR σ (dg4 σ P))))
      rw [mxd_at]
      exact hq
    | succ k ih =>
      intro hk v
      have ih := ih (by omega)
      rw [show 4 - k = 4 - (k + 1) + 1 by omega] at ih
      generalize hi' : 4 - (k + 1) = r at *
      have hr : r < 4 := by omega
      simp only [gi] at ih
      generalize gi (fun r h => fo (fun i => σ (12 + r) i) (31 * h + (σ 16 r).toInt64) (rl (σ 16 r))) (dgR σ (dg4 σ P)) r = H at *
      have e9 : σ 72 (nI r).toNatClampNeg = σ 72 r := by rw [cl7 (by omega)]
      have inner : ∀ n, n ≤ 80 → rl (σ 16 r) = n → (∀ i, i < n → ¬ σ 72 r ≤ nI i) → σ 72 r ≤ nI n → Ev m_M_digest 117 [.ref 67, .int (nI r), .int (nI 0)] [] x_g σ (mxd τ (31 * H + (σ 16 r).toInt64)) Q := by
        intro n hn e1 e2 e3
        refine ev_iter (M := m_M_digest) (pc := 117) (st := []) (g := x_g) (Q := Q) n (fun i => ([.ref 67, .int (nI r), .int (nI i)], σ, mxd τ (fo (fun i => σ (12 + r) i) (31 * H + (σ 16 r).toInt64) i))) (fun i hi kk2 => ?_) ?_
        · dsimp only at kk2 ⊢
          refine ev_go 100 [117] ?_
          refine ⟨4, rfl, q_in hr (by decide), ?_⟩
          rw [e9]
          refine br_f (e2 i hi) ?_
          refine ⟨320, rfl, by rw [e80]; exact q_in (by omega) (by decide), ?_⟩
          rw [e80, cl7 (by omega), ← (hT.2 r hr).2 i (by omega)]
          refine e_M_mix σ τ _ _ _ ?_
          show Ev m_M_digest 117 [.ref 67, .int (nI r), .int (nI i + 1)] [] x_g σ (mxd τ (31 * fo (fun i => σ (12 + r) i) (31 * H + (σ 16 r).toInt64) i + (σ (12 + r) i).toInt64)) Q
          rw [nI_1]
          exact kk2
        · dsimp only
          refine ev_go 100 [85] ?_
          refine ⟨4, rfl, q_in hr (by decide), ?_⟩
          rw [e9]
          refine br_t e3 ?_
          show Ev m_M_digest 85 [.ref 67, .int (nI r + 1), .int (nI n)] [] x_g σ (mxd τ (fo (fun i => σ (12 + r) i) (31 * H + (σ 16 r).toInt64) n)) Q
          rw [nI_1, ← e1]
          exact ih _
      refine ev_go 100 [117] ?_
      refine br_f (nI_ge (b := 4) hr (by decide)) ?_
      refine ⟨4, rfl, q_in hr (by decide), ?_⟩
      rw [e9]
      rcases hT.size hr with ⟨a, b⟩ | ⟨n, hn, a, b⟩
      · refine bn_f b ?_
        refine e_M_mix σ τ _ _ _ ?_
        have := inner 0 (by omega) (by rw [a]; decide) (fun i hi => absurd hi (Nat.not_lt_zero i)) (by rw [b]; decide)
        rw [a] at this
        exact this
      · refine bn_t (by rw [b]; exact nI_ne9 (by omega)) ?_
        refine ⟨4, rfl, q_in hr (by decide), ?_⟩
        rw [e9]
        refine e_M_mix σ τ _ _ _ ?_
        have := inner n hn (by rw [a]; exact rl_nI (by omega)) (fun i hi => by rw [b]; exact nI_ge hi (by omega)) (by rw [b]; exact nI_le (Nat.le_refl _) (by omega))
        rw [a] at this
        rw [b]
        exact this
  have rows : ∀ k, k ≤ 6 → ∀ v : Value, Ev m_M_digest 13 [.ref 67, .int (nI (6 - k)), v] [] x_g σ (mxd τ (gi (fun r h => fo (fun i => σ (3 + r) i) (31 * h + (σ 9 r).toInt64) (rl (σ 9 r))) (dg4 σ P) (6 - k))) Q := by
    intro k
    induction k with
    | zero =>
      intro _ v
      rw [Nat.sub_zero]
      refine ev_go 100 [85] ?_
      refine br_t (by decide) ?_
      exact texts 4 (Nat.le_refl _) v
    | succ k ih =>
      intro hk v
      have ih := ih (by omega)
      rw [show 6 - k = 6 - (k + 1) + 1 by omega] at ih
      generalize hi' : 6 - (k + 1) = r at *
      have hr : r < 6 := by omega
      simp only [gi] at ih
      generalize gi (fun r h => fo (fun i => σ (3 + r) i) (31 * h + (σ 9 r).toInt64) (rl (σ 9 r))) (dg4 σ P) r = H at *
      have e9 : σ 69 (nI r).toNatClampNeg = σ 69 r := by rw [cl7 (by omega)]
      have inner : ∀ n, n ≤ 40 → rl (σ 9 r) = n → (∀ i, i < n → ¬ σ 69 r ≤ nI i) → σ 69 r ≤ nI n → Ev m_M_digest 46 [.ref 67, .int (nI r), .int (nI 0)] [] x_g σ (mxd τ (31 * H + (σ 9 r).toInt64)) Q := by
        intro n hn e1 e2 e3
        refine ev_iter (M := m_M_digest) (pc := 46) (st := []) (g := x_g) (Q := Q) n (fun i => ([.ref 67, .int (nI r), .int (nI i)], σ, mxd τ (fo (fun i => σ (3 + r) i) (31 * H + (σ 9 r).toInt64) i))) (fun i hi kk2 => ?_) ?_
        · dsimp only at kk2 ⊢
          refine ev_go 100 [46] ?_
          refine ⟨6, rfl, q_in hr (by decide), ?_⟩
          rw [e9]
          refine br_f (e2 i hi) ?_
          refine ⟨240, rfl, by rw [e40]; exact q_in (by omega) (by decide), ?_⟩
          rw [e40, cl7 (by omega), ← (hR.2 r hr).2 i (by omega)]
          refine e_M_mix σ τ _ _ _ ?_
          show Ev m_M_digest 46 [.ref 67, .int (nI r), .int (nI i + 1)] [] x_g σ (mxd τ (31 * fo (fun i => σ (3 + r) i) (31 * H + (σ 9 r).toInt64) i + (σ (3 + r) i).toInt64)) Q
          rw [nI_1]
          exact kk2
        · dsimp only
          refine ev_go 100 [13] ?_
          refine ⟨6, rfl, q_in hr (by decide), ?_⟩
          rw [e9]
          refine br_t e3 ?_
          show Ev m_M_digest 13 [.ref 67, .int (nI r + 1), .int (nI n)] [] x_g σ (mxd τ (fo (fun i => σ (3 + r) i) (31 * H + (σ 9 r).toInt64) n)) Q
          rw [nI_1, ← e1]
          exact ih _
      refine ev_go 100 [46] ?_
      refine br_f (nI_ge (b := 6) hr (by decide)) ?_
      refine ⟨6, rfl, q_in hr (by decide), ?_⟩
      rw [e9]
      rcases hR.size hr with ⟨a, b⟩ | ⟨n, hn, a, b⟩
      · refine bn_f b ?_
        refine e_M_mix σ τ _ _ _ ?_
        have := inner 0 (by omega) (by rw [a]; decide) (fun i hi => absurd hi (Nat.not_lt_zero i)) (by rw [b]; decide)
        rw [a] at this
        exact this
      · refine bn_t (by rw [b]; exact nI_ne9 (by omega)) ?_
        refine ⟨6, rfl, q_in hr (by decide), ?_⟩
        rw [e9]
        refine e_M_mix σ τ _ _ _ ?_
        have := inner n hn (by rw [a]; exact rl_nI (by omega)) (fun i hi => by rw [b]; exact nI_ge hi (by omega)) (by rw [b]; exact nI_le (Nat.le_refl _) (by omega))
        rw [a] at this
        rw [b]
        exact this
  refine ev_go 100 [13] ?_
  refine e_M_mixPass σ τ hP hV hR hT hK _ ?_
  exact rows 6 (Nat.le_refl _) _
theorem pair_digest : Pair m_S_digest m_M_digest [] := by
  intro σ τ hR
  obtain ⟨P, hC, hM, hV, hK⟩ := hR.2.2.1
  refine e_S_digest σ τ hC hV hR.1 hR.2.1 _ ?_
  refine ⟨rfl, ?_⟩
  refine e_M_digest σ τ hM hV hR.1 hR.2.1 hK _ ?_
  exact ⟨rfl, rfl, ⟨_, rfl⟩, hR.mxd _⟩
