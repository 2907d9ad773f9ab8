def sm (f : Nat → Int32) : Nat → Int64
  | 0 => 0
  | i + 1 => sm f i + (f i).toInt64
theorem sm_congr {f g : Nat → Int32} : ∀ n, (∀ i, i < n → f i = g i) → sm f n = sm g n
  | 0, _ => rfl
  | n + 1, h => by
    simp only [sm]
    rw [sm_congr n (fun i hi => h i (by omega)), h n (by omega)]
theorem nI_l0 {n : Nat} (h : n < 2 ^ 31) (h0 : 0 < n) : ¬ (nI n).toInt64 = 0 := by
  rw [nI_l h]
  intro e
  have := congrArg Int64.toInt e
  rw [lN_toInt h, show ((0 : Int64)).toInt = 0 from by decide] at this
  omega
theorem e_H_sum (σ : xS) (τ : xL) {k n : Nat} (hk : k < 6) (hn : n ≤ 40) (h0 : σ 9 k = nI n) : Rn m_H_sum [.ref 1, .int (nI k)] σ τ (some (.long (sm (σ (3 + k)) n))) σ τ := by
  intro Q h
  refine ev_go 100 [5] ?_
  have ek : (nI k).toNatClampNeg = k := nI_clamp (by omega)
  refine ev_iter (M := m_H_sum) (pc := 5) (st := []) (g := x_g) (Q := Q) n (fun i => ([.ref 1, .int (nI k), .long (sm (σ (3 + k)) i), .null, .int (nI i)], σ, τ)) (fun i hi kk => ?_) ?_
  · dsimp only at kk ⊢
    refine ev_go 100 [5] ?_
    refine ⟨6, rfl, q_in hk (by decide), ?_⟩
    refine br_f (by rw [ek, h0]; exact nI_ge hi (by omega)) ?_
    refine ⟨18, 6, 3 + k, rfl, Or.inl rfl, q_in hk (by decide), by rw [ek]; exact rf_rows k hk, ?_⟩
    refine ⟨40, sh_rows k hk, q_in (by omega) (by decide), ?_⟩
    show Ev m_H_sum 5 [.ref 1, .int (nI k), .long (sm (σ (3 + k)) i + (σ (3 + k) (nI i).toNatClampNeg).toInt64), .null, .int (nI i + 1)] [] x_g σ τ Q
    rw [nI_clamp (n := i) (by omega), nI_1]
    exact kk
  · dsimp only
    refine ev_go 100 [5] ?_
    refine ⟨6, rfl, q_in hk (by decide), ?_⟩
    refine br_t (by rw [ek, h0]; exact nI_le (Nat.le_refl n) (by omega)) ?_
    exact h
theorem pair_mean (r : Int32) : Pair m_S_mean m_M_mean [.int r] := by
  intro σ τ hR
  refine ev_go 100 [] ?_
  refine e_H_isNumber1 σ τ r _ ?_
  rcases q_ix r 6 (by decide) with h0 | ⟨k, hk, rfl⟩
  · refine bn_f (xb0 (fun q => h0.elim q.1 q.2)) ?_
    refine ⟨rfl, ?_⟩
    refine ev_go 100 [] ?_
    refine e_M_rowBar_bad σ τ r h0 _ ?_
    refine br_f (by decide) ?_
    exact ⟨rfl, rfl, ⟨_, rfl⟩, hR⟩
  · refine bn_t (xb1 (in_row6 hk)) ?_
    have ek : (nI k).toNatClampNeg = k := nI_clamp (by omega)
    refine e_H_isThere1 σ τ _ (q_in hk (by decide)) _ ?_
    rcases hR.1.size hk with ⟨h1, h2⟩ | ⟨n, hn, h1, h2⟩
    · refine bn_f (xb0 (fun q => q (by rw [ek, h1]; decide))) ?_
      refine e_S_refuse σ τ 1 in1 _ ?_
      refine ⟨rfl, ?_⟩
      refine ev_go 100 [] ?_
      refine e_M_rowBar_no (c_ref σ 1) τ hk h2 _ ?_
      refine br_f (by decide) ?_
      exact ⟨rfl, rfl, ⟨_, rfl⟩, hR.find (f := 1) (by decide)⟩
    · refine bn_t (xb1 (by rw [ek, h1]; exact nI_pos (by omega))) ?_
      refine ⟨6, rfl, q_in hk (by decide), ?_⟩
      rcases Nat.eq_zero_or_pos n with hz | hz
      · subst hz
        refine br_f (by rw [ek, h1]; decide) ?_
        refine e_S_refuse σ τ 4 in4 _ ?_
        refine ⟨rfl, ?_⟩
        refine ev_go 100 [] ?_
        refine e_M_rowBar_ok (c_ref σ 4) τ hk (by show ¬ σ 69 k = -9; rw [h2]; exact nI_ne9 (by omega)) _ ?_
        refine br_t rfl ?_
        refine ⟨6, rfl, q_in hk (by decide), ?_⟩
        refine bn_f (by rw [ek]; exact h2) ?_
        refine e_M_finds _ τ 4 in4 _ ?_
        exact ⟨rfl, rfl, ⟨_, rfl⟩, hR.find (f := 4) (by decide)⟩
      · refine br_t (by rw [ek, h1]; exact nI_lt (a := 0) hz (by omega)) ?_
        refine e_H_sum σ τ hk hn h1 _ ?_
        refine ⟨by rw [ek, h1]; exact nI_l0 (by omega) hz, ?_⟩
        rw [ek, h1]
        refine ⟨rfl, ?_⟩
        generalize hv : (sm (σ (3 + k)) n / (nI n).toInt64).toInt32 = v
        have h2' : c_told σ v 69 k = nI n := h2
        refine ev_go 100 [32] ?_
        refine e_M_rowBar_ok (c_told σ v) τ hk (by rw [h2']; exact nI_ne9 (by omega)) _ ?_
        refine br_t rfl ?_
        refine ⟨6, rfl, q_in hk (by decide), ?_⟩
        refine bn_t (by rw [ek, h2']; exact nI_ne0 hz (by omega)) ?_
        refine ev_iter (M := m_M_mean) (pc := 32) (st := []) (g := x_g) n (fun i => ([.ref 67, .int (nI k), .int 0, .long (sm (fun x => σ 70 (40 * k + x)) i), .null, .int (nI i)], c_told σ v, τ)) (fun i hi kk => ?_) ?_
        · dsimp only at kk ⊢
          refine ev_go 100 [32] ?_
          refine ⟨6, rfl, q_in hk (by decide), ?_⟩
          refine br_f (by rw [ek, h2']; exact nI_ge hi (by omega)) ?_
          have e : (40 : Int32) * nI k + nI i = nI (40 * k + i) := by rw [show (40 : Int32) = nI 40 from rfl, pk_mul, nI_add]
          refine ⟨240, rfl, by rw [e]; exact q_in (by omega) (by decide), ?_⟩
          show Ev m_M_mean 32 [.ref 67, .int (nI k), .int 0, .long (sm (fun x => σ 70 (40 * k + x)) i + (σ 70 ((40 : Int32) * nI k + nI i).toNatClampNeg).toInt64), .null, .int (nI i + 1)] [] x_g (c_told σ v) τ _
          rw [e, nI_clamp (n := 40 * k + i) (by omega), nI_1]
          exact kk
        · dsimp only
          refine ev_go 100 [32] ?_
          refine ⟨6, rfl, q_in hk (by decide), ?_⟩
          refine br_t (by rw [ek, h2']; exact nI_le (Nat.le_refl n) (by omega)) ?_
          refine ⟨6, rfl, q_in hk (by decide), ?_⟩
          refine ⟨by rw [ek, h2']; exact nI_l0 (by omega) hz, ?_⟩
          rw [ek, h2']
          refine e_M_tells (c_told σ v) τ _ _ _ ?_
          refine ⟨rfl, rfl, ⟨_, rfl⟩, ?_⟩
          rw [← sm_congr (f := σ (3 + k)) n (fun i hi => (hR.1.2 k hk).2 i (by omega)), hv]
          exact hR.told v
