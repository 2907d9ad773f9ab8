/-! CALLS THAT ASK WHO WENT AHEAD -/
theorem Ag.cref {σ : xS} {f : Int32} : Ag [0, 48] σ (c_ref σ f) := by
  intro q hq
  simp only [List.mem_cons, List.not_mem_nil, or_false, not_or] at hq
  unfold c_ref
  rw [x_row_ne hq.2, x_row_ne hq.1]
theorem Ag.ctold {σ : xS} {v : Int32} : Ag [0] σ (c_told σ v) := by
  intro q hq
  simp only [List.mem_cons, List.not_mem_nil, or_false] at hq
  unfold c_told
  rw [x_row_ne hq]
theorem Rel.fnd {σ σ1 σ2 : xS} {τ : xL} {L1 L2 : List Nat} (hR : Rel σ τ) (h1 : Ag L1 σ σ1) (hL1 : ∀ q, q ∈ L1 → scrq q) {f : Nat} (hf : f < 6) (h2 : Ag L2 (c_ref σ1 (nI f)) σ2) (hL2 : ∀ q, q ∈ L2 → scrq q) : Rel (m_fnd σ2 (nI f)) τ := by
  refine ((hR.ag h1 hL1).find hf).ag (L := L2) (fun q hq => ?_) hL2
  have n67 : 67 ∉ L2 := fun z => by have := hL2 67 z; unfold scrq at this; omega
  have n68 : 68 ∉ L2 := fun z => by have := hL2 68 z; unfold scrq at this; omega
  unfold m_fnd
  by_cases e1 : q = 68
  · subst e1
    rw [x_row_eq, x_row_eq, h2 68 n68]
  · rw [x_row_ne e1, x_row_ne e1]
    by_cases e2 : q = 67
    · subst e2
      rw [x_row_eq, x_row_eq, h2 67 n67]
    · rw [x_row_ne e2, x_row_ne e2, h2 q hq]
theorem Rel.tld {σ σ1 σ2 : xS} {τ : xL} {L1 L2 : List Nat} (hR : Rel σ τ) (h1 : Ag L1 σ σ1) (hL1 : ∀ q, q ∈ L1 → scrq q) {v : Int32} (h2 : Ag L2 (c_told σ1 v) σ2) (hL2 : ∀ q, q ∈ L2 → scrq q) : Rel (m_told σ2 v) τ := by
  refine ((hR.ag h1 hL1).told v).ag (L := L2) (fun q hq => ?_) hL2
  have n67 : 67 ∉ L2 := fun z => by have := hL2 67 z; unfold scrq at this; omega
  unfold m_told
  by_cases e2 : q = 67
  · subst e2
    rw [x_row_eq, x_row_eq, h2 67 n67]
  · rw [x_row_ne e2, x_row_ne e2, h2 q hq]
theorem q_two {n : Nat} (hn : n ≤ 7) (i j : Int32) : ((¬ i < 0 ∧ ¬ nI n ≤ i) ∧ (¬ j < 0 ∧ ¬ nI n ≤ j) ∧ ¬ i = j) ↔ ∃ a b, a < n ∧ b < n ∧ a ≠ b ∧ i = nI a ∧ j = nI b := by
  rw [q_trk hn, q_trk hn]
  constructor
  · rintro ⟨⟨a, ha, rfl⟩, ⟨b, hb, rfl⟩, h⟩
    exact ⟨a, b, ha, hb, fun e => h (by rw [e]), rfl, rfl⟩
  · rintro ⟨a, b, ha, hb, hab, rfl, rfl⟩
    exact ⟨⟨a, ha, rfl⟩, ⟨b, hb, rfl⟩, fun e => hab ((nI_eq (by omega) (by omega)).mp e)⟩
theorem ed00 (P : xP) (w : Bool) : ed P (fT P 0 0) (tT 0) w = ed P (tl P) (fun _ => true) w := by
  have h1 : fT P 0 0 = tl P := by funext k; simp [fT]
  have h2 : tT 0 = fun _ => true := by funext k; simp [tT]
  rw [h1, h2]
/-- the model's edges are told -/
def Mr (σ : xS) (n : Nat) (e : Nat → Nat → Bool) : Prop := Ar σ 85 7 (fun j => bs (e j) n)
def Mc (σ : xS) (n : Nat) (e : Nat → Nat → Bool) : Prop := Mr σ n e ∧ Ar σ 86 n (fun j => bs (fun i => wr e n i j) n)
theorem e_M_findNow (σ : xS) (τ : xL) {P : xP} (hP : PM σ P) (hV : PV P) : Rs m_M_findNow [.ref 67] σ τ none (fun σ' => Ag [85, 86] σ σ' ∧ Mc σ' (pn P) (edP P)) := by
  intro Q h
  refine ev_go 100 [] ?_
  refine e_M_findAhead σ τ hP hV (a := 0) (b := 0) (by decide) (by decide) hV.2.2.1 hP.2.2.1 _ (fun σ1 h1 => ?_)
  rw [ed00] at h1
  have hP1 := hP.ag h1.1 (by decide)
  refine e_M_findSurely σ1 τ hV.1 hP1.1 (h1.2.mono hV.1) _ (fun σ2 h2 => ?_)
  exact h σ2 ⟨(h1.1.mono (by decide)).trans (h2.1.mono (by decide)), h1.2.ag h2.1 (by decide), h2.2⟩
theorem e_M_isRingNow (σ : xS) (τ : xL) {P : xP} (hP : PM σ P) (hV : PV P) : Rs m_M_isRingNow [.ref 67] σ τ (some (.int (x_b (rg (edP P) (pn P) = true)))) (fun σ' => Ag [85, 86] σ σ' ∧ Mc σ' (pn P) (edP P)) := by
  intro Q h
  refine ev_go 100 [] ?_
  refine e_M_findAhead σ τ hP hV (a := 0) (b := 0) (by decide) (by decide) hV.2.2.1 hP.2.2.1 _ (fun σ1 h1 => ?_)
  rw [ed00] at h1
  have hP1 := hP.ag h1.1 (by decide)
  refine e_M_isRing σ1 τ hV.1 hP1.1 (h1.2.mono hV.1) _ (fun σ2 h2 => ?_)
  exact ⟨x_b_01, h σ2 ⟨(h1.1.mono (by decide)).trans (h2.1.mono (by decide)), h1.2.ag h2.1 (by decide), h2.2⟩⟩
theorem b31 {f : Nat → Bool} {n : Nat} (h : n ≤ 7) : bs f n < 2 ^ 31 := Nat.lt_trans (bs7 _ h) (by decide)
theorem pair_ahead (i j : Int32) : Pair m_S_ahead m_M_ahead [.int i, .int j] := by
  intro σ τ hR
  obtain ⟨P, hC, hM, hV, hK⟩ := hR.2.2.1
  have h7 := hV.1
  refine ev_go 100 [] ?_
  refine e_P_areTwo σ τ i j _ ?_
  rw [hC.1]
  by_cases h2 : ((¬ i < 0 ∧ ¬ nI (pn P) ≤ i) ∧ (¬ j < 0 ∧ ¬ nI (pn P) ≤ j) ∧ ¬ i = j)
  · refine bn_t (xb1 h2) ?_
    refine e_G_takeAll σ τ hC hV _ (fun σ1 h1 => ?_)
    obtain ⟨a, b, ha, hb, hab, rfl, rfl⟩ := (q_two hV.1 i j).mp h2
    refine ⟨7, rfl, q_in (by omega) (by decide), ?_⟩
    rw [h1.2.2.get (by omega) (by omega)]
    have fin : Ev m_M_ahead 0 (x_loc [.ref 67, .int (nI a), .int (nI b)] m_M_ahead.2.2.1) [] x_g σ1 τ (fun r2 g2 σ2 τ2 => g2 = x_g ∧ some (.int (nI (if (bs (edP P b) (pn P)).testBit a then 1 else 0))) = r2 ∧ (∃ v, some (Value.int (nI (if (bs (edP P b) (pn P)).testBit a then 1 else 0))) = some v) ∧ Rel σ2 τ2) := by
      have hM1 := hM.ag h1.1 (by decide)
      refine ev_go 100 [] ?_
      refine e_M_arePair σ1 τ hM1 hV _ _ _ ?_
      refine bn_t (xb1 h2) ?_
      refine e_M_findNow σ1 τ hM1 hV _ (fun σ2 h3 => ?_)
      refine ⟨7, rfl, q_in (by omega) (by decide), ?_⟩
      rw [Ar.get (A := fun j => bs (edP P j) (pn P)) h3.2.1 (by omega) (by omega)]
      refine ⟨rfl, ?_, ⟨_, rfl⟩, (hR.ag h1.1 (by decide)).ag h3.1 (by decide)⟩
      rw [q_bit (b31 h7) (by omega)]
    refine e_S_has σ1 τ (b31 h7) (by omega) _ ?_
    by_cases t : (bs (edP P b) (pn P)).testBit a = true
    · refine br_f (xb1 t) ?_
      rw [if_pos t] at fin
      exact ⟨rfl, fin⟩
    · refine br_t (xb0 t) ?_
      rw [if_neg t] at fin
      exact ⟨rfl, fin⟩
  · refine bn_f (xb0 h2) ?_
    refine ⟨rfl, ?_⟩
    refine ev_go 100 [] ?_
    refine e_M_arePair σ τ hM hV _ _ _ ?_
    refine bn_f (xb0 h2) ?_
    exact ⟨rfl, rfl, ⟨_, rfl⟩, hR⟩
theorem pair_sure (i j : Int32) : Pair m_S_sure m_M_sure [.int i, .int j] := by
  intro σ τ hR
  obtain ⟨P, hC, hM, hV, hK⟩ := hR.2.2.1
  have h7 := hV.1
  refine ev_go 100 [] ?_
  refine e_P_areTwo σ τ i j _ ?_
  rw [hC.1]
  by_cases h2 : ((¬ i < 0 ∧ ¬ nI (pn P) ≤ i) ∧ (¬ j < 0 ∧ ¬ nI (pn P) ≤ j) ∧ ¬ i = j)
  · refine bn_t (xb1 h2) ?_
    refine e_S_closesToRing σ τ hC hV _ (fun σ1 h1 => ?_)
    have hM1 := hM.ag h1.1 (by decide)
    by_cases hr : rg (edP P) (pn P) = true
    · refine br_f (xb1 hr) ?_
      refine e_S_refuse σ1 τ 4 in4 _ ?_
      refine ⟨rfl, ?_⟩
      have hM2 := hM1.ag (Ag.cref (f := 4)) (by decide)
      refine ev_go 100 [] ?_
      refine e_M_arePair _ τ hM2 hV _ _ _ ?_
      refine bn_t (xb1 h2) ?_
      refine e_M_isRingNow _ τ hM2 hV _ (fun σ2 h3 => ?_)
      refine br_f (xb1 hr) ?_
      refine e_M_finds σ2 τ 4 in4 _ ?_
      exact ⟨rfl, rfl, ⟨_, rfl⟩, hR.fnd h1.1 (by decide) (f := 4) (by decide) h3.1 (by decide)⟩
    · refine br_t (xb0 hr) ?_
      obtain ⟨a, b, ha, hb, hab, rfl, rfl⟩ := (q_two hV.1 i j).mp h2
      have e1 : (bs (wr (edP P) (pn P) a) (pn P)).testBit b = wr (edP P) (pn P) a b := by rw [bs_bit]; simp [hb]
      have e2 : (bs (wr (edP P) (pn P) b) (pn P)).testBit a = wr (edP P) (pn P) b a := by rw [bs_bit]; simp [ha]
      have f1 : (bs (fun x => wr (edP P) (pn P) x b) (pn P)).testBit a = wr (edP P) (pn P) a b := by rw [bs_bit]; simp [ha]
      have f2 : (bs (fun x => wr (edP P) (pn P) x a) (pn P)).testBit b = wr (edP P) (pn P) b a := by rw [bs_bit]; simp [hb]
      have mod : ∀ v : Int32, (v = if wr (edP P) (pn P) a b = true then 1 else if wr (edP P) (pn P) b a = true then 2 else 0) → Ev m_M_sure 0 (x_loc [.ref 67, .int (nI a), .int (nI b)] m_M_sure.2.2.1) [] x_g σ1 τ (fun r2 g2 σ2 τ2 => g2 = x_g ∧ some (.int v) = r2 ∧ (∃ w, some (Value.int v) = some w) ∧ Rel σ2 τ2) := by
        intro v hv
        refine ev_go 100 [] ?_
        refine e_M_arePair _ τ hM1 hV _ _ _ ?_
        refine bn_t (xb1 h2) ?_
        refine e_M_isRingNow _ τ hM1 hV _ (fun σ2 h3 => ?_)
        have hfin := (hR.ag h1.1 (by decide)).ag h3.1 (by decide)
        refine br_t (xb0 hr) ?_
        refine ⟨7, rfl, q_in (by omega) (by decide), ?_⟩
        rw [h3.2.2.get (by omega) (by omega)]
        refine e_M_has σ2 τ (b31 h7) (by omega) _ ?_
        by_cases t : (bs (fun x => wr (edP P) (pn P) x b) (pn P)).testBit a = true
        · refine br_f (xb1 t) ?_
          rw [f1] at t
          rw [if_pos t] at hv
          subst hv
          exact ⟨rfl, rfl, ⟨_, rfl⟩, hfin⟩
        · refine br_t (xb0 t) ?_
          rw [f1] at t
          rw [if_neg t] at hv
          refine ⟨7, rfl, q_in (by omega) (by decide), ?_⟩
          rw [h3.2.2.get (by omega) (by omega)]
          refine e_M_has σ2 τ (b31 h7) (by omega) _ ?_
          by_cases t2 : (bs (fun x => wr (edP P) (pn P) x a) (pn P)).testBit b = true
          · refine br_f (xb1 t2) ?_
            rw [f2] at t2
            rw [if_pos t2] at hv
            subst hv
            exact ⟨rfl, rfl, ⟨_, rfl⟩, hfin⟩
          · refine br_t (xb0 t2) ?_
            rw [f2] at t2
            rw [if_neg t2] at hv
            subst hv
            exact ⟨rfl, rfl, ⟨_, rfl⟩, hfin⟩
      refine ⟨7, rfl, q_in (by omega) (by decide), ?_⟩
      rw [h1.2.2.get (by omega) (by omega)]
      refine e_S_has σ1 τ (b31 h7) (by omega) _ ?_
      by_cases t : (bs (wr (edP P) (pn P) a) (pn P)).testBit b = true
      · refine br_f (xb1 t) ?_
        rw [e1] at t
        exact ⟨rfl, mod _ (by rw [if_pos t])⟩
      · refine br_t (xb0 t) ?_
        rw [e1] at t
        refine ⟨7, rfl, q_in (by omega) (by decide), ?_⟩
        rw [h1.2.2.get (by omega) (by omega)]
        refine e_S_has σ1 τ (b31 h7) (by omega) _ ?_
        by_cases t2 : (bs (wr (edP P) (pn P) b) (pn P)).testBit a = true
        · refine br_f (xb1 t2) ?_
          rw [e2] at t2
          exact ⟨rfl, mod _ (by rw [if_neg t, if_pos t2])⟩
        · refine br_t (xb0 t2) ?_
          rw [e2] at t2
          exact ⟨rfl, mod _ (by rw [if_neg t, if_neg t2])⟩
  · refine bn_f (xb0 h2) ?_
    refine ⟨rfl, ?_⟩
    refine ev_go 100 [] ?_
    refine e_M_arePair σ τ hM hV _ _ _ ?_
    refine bn_f (xb0 h2) ?_
    exact ⟨rfl, rfl, ⟨_, rfl⟩, hR⟩
theorem e_M_behind (σ : xS) (τ : xL) {n : Nat} (h7 : n ≤ 7) (hG : σ 67 10 = nI n) {a : Nat → Nat → Bool} (hA : Ar σ 86 n (fun j => bs (fun i => a i j) n)) {i : Nat} (hi : i < n) : Rn m_M_behind [.ref 67, .int (nI i)] σ τ (some (.int (nI (cnt (a i) n)))) σ τ := by
  intro Q h
  refine ev_go 100 [4] ?_
  refine ev_iter (M := m_M_behind) (pc := 4) (st := []) (g := x_g) (Q := Q) n (fun k => ([.ref 67, .int (nI i), .int (nI (cnt (a i) k)), .int (nI k)], σ, τ)) (fun k hk kk => ?_) ?_
  · dsimp only at kk ⊢
    refine ev_go 100 [4] ?_
    refine br_f (by rw [hG]; exact nI_ge hk (by omega)) ?_
    refine ⟨7, rfl, q_in (by omega) (by decide), ?_⟩
    rw [hA.get hk (by omega)]
    show Ev m_M_behind 4 [.ref 67, .int (nI i), .int (nI (cnt (a i) k) + ((nI (bs (fun x => a x k) n) >>> (nI i &&& 31)) &&& 1)), .int (nI k + 1)] [] x_g σ τ Q
    rw [nI_1, q_bit (b31 h7) (by omega), nI_add, show (bs (fun x => a x k) n).testBit i = a i k by rw [bs_bit]; simp [hi]]
    exact kk
  · dsimp only
    refine ev_go 100 [4] ?_
    refine br_t (by rw [hG]; exact nI_le (Nat.le_refl _) (by omega)) ?_
    exact h
theorem pair_place (i : Int32) : Pair m_S_place m_M_place [.int i] := by
  intro σ τ hR
  obtain ⟨P, hC, hM, hV, hK⟩ := hR.2.2.1
  have h7 := hV.1
  refine ev_go 100 [] ?_
  refine e_P_isTrack σ τ i _ ?_
  rw [hC.1]
  by_cases h2 : (¬ i < 0 ∧ ¬ nI (pn P) ≤ i)
  · refine bn_t (xb1 h2) ?_
    refine e_S_closesToRing σ τ hC hV _ (fun σ1 h1 => ?_)
    have hM1 := hM.ag h1.1 (by decide)
    have hC1 := hC.ag h1.1 (by decide)
    by_cases hr : rg (edP P) (pn P) = true
    · refine br_f (xb1 hr) ?_
      refine e_S_refuse σ1 τ 4 in4 _ ?_
      refine ⟨rfl, ?_⟩
      have hM2 := hM1.ag (Ag.cref (f := 4)) (by decide)
      refine ev_go 100 [] ?_
      refine e_M_isTrack _ τ hM2 hV _ _ ?_
      refine bn_t (xb1 h2) ?_
      refine e_M_isRingNow _ τ hM2 hV _ (fun σ2 h3 => ?_)
      refine br_f (xb1 hr) ?_
      refine e_M_finds σ2 τ 4 in4 _ ?_
      exact ⟨rfl, rfl, ⟨_, rfl⟩, hR.fnd h1.1 (by decide) (f := 4) (by decide) h3.1 (by decide)⟩
    · refine br_t (xb0 hr) ?_
      obtain ⟨a, ha, rfl⟩ := (q_trk hV.1 i).mp h2
      refine ⟨7, rfl, q_in (by omega) (by decide), ?_⟩
      rw [h1.2.2.get (by omega) (by omega)]
      refine e_J_bitCount σ1 τ (bs7 _ h7) _ ?_
      refine e_G_surelyAheadOf _ τ h7 (n := pn P) (a := wr (edP P) (pn P)) (h1.2.1.1.ag (Ag.ctold (v := _)) (by decide)) (h1.2.2.ag (Ag.ctold (v := _)) (by decide)) ha _ ?_
      refine e_J_bitCount _ τ (bs7 _ h7) _ ?_
      refine ⟨rfl, ?_⟩
      rw [pp_bs _ (by omega), pp_bs _ (by omega), hC1.1]
      generalize hv : nI (pn P) - 1 - nI (cnt (wr (edP P) (pn P) a) (pn P)) = v
      have hM2 := hM1.ag (Ag.ctold (v := v)) (by decide)
      refine ev_go 100 [] ?_
      refine e_M_isTrack _ τ hM2 hV _ _ ?_
      refine bn_t (xb1 h2) ?_
      refine e_M_isRingNow _ τ hM2 hV _ (fun σ2 h3 => ?_)
      refine br_t (xb0 hr) ?_
      have hM3 := hM2.ag h3.1 (by decide)
      refine e_M_behind σ2 τ h7 hM3.1 h3.2.2 ha _ ?_
      refine ⟨7, rfl, q_in (by omega) (by decide), ?_⟩
      rw [h3.2.2.get (by omega) (by omega)]
      refine e_M_bits σ2 τ (b31 h7) _ ?_
      refine e_M_tells σ2 τ _ _ _ ?_
      rw [pp_bs _ (by omega), hM3.1, hv]
      exact ⟨rfl, rfl, ⟨_, rfl⟩, hR.tld h1.1 (by decide) h3.1 (by decide)⟩
  · refine bn_f (xb0 h2) ?_
    refine ⟨rfl, ?_⟩
    refine ev_go 100 [] ?_
    refine e_M_isTrack σ τ hM hV _ _ ?_
    refine bn_f (xb0 h2) ?_
    exact ⟨rfl, rfl, ⟨_, rfl⟩, hR⟩
theorem e_M_isBetween (σ : xS) (τ : xL) {n : Nat} (h7 : n ≤ 7) (hG : σ 67 10 = nI n) {a : Nat → Nat → Bool} (hA : Ar σ 86 n (fun j => bs (fun i => a i j) n)) {i j : Nat} (hi : i < n) (hj : j < n) : Rn m_M_isBetween [.ref 67, .int (nI i), .int (nI j)] σ τ (some (.int (x_b (anb (fun k => a i k && a k j) n = true)))) σ τ := by
  intro Q h
  refine ev_go 100 [5] ?_
  refine ev_iter (M := m_M_isBetween) (pc := 5) (st := []) (g := x_g) (Q := Q) n (fun k => ([.ref 67, .int (nI i), .int (nI j), .int (x_b (anb (fun k => a i k && a k j) k = true)), .int (nI k)], σ, τ)) (fun k hk kk => ?_) ?_
  · dsimp only at kk ⊢
    have join : Ev m_M_isBetween 51 [.ref 67, .int (nI i), .int (nI j), .int (x_b (anb (fun k => a i k && a k j) k = true)), .int (nI k)] [.int (x_b (anb (fun k => a i k && a k j) (k + 1) = true))] x_g σ τ Q := by
      refine ev_go 100 [5] ?_
      show Ev m_M_isBetween 5 [.ref 67, .int (nI i), .int (nI j), .int (x_b (anb (fun k => a i k && a k j) (k + 1) = true)), .int (nI k + 1)] [] x_g σ τ Q
      rw [nI_1]
      exact kk
    refine ev_go 100 [51] ?_
    refine br_f (by rw [hG]; exact nI_ge hk (by omega)) ?_
    by_cases t0 : anb (fun k => a i k && a k j) k = true
    · refine bn_t (xb1 t0) ?_
      rw [x_b_t (p := anb (fun k => a i k && a k j) (k + 1) = true) (by simp [anb, t0])] at join
      exact join
    refine bn_f (xb0 t0) ?_
    refine ⟨7, rfl, q_in (by omega) (by decide), ?_⟩
    rw [hA.get hk (by omega)]
    refine e_M_has σ τ (b31 h7) (by omega) _ ?_
    have e1 : (bs (fun x => a x k) n).testBit i = a i k := by rw [bs_bit]; simp [hi]
    have e2 : (bs (fun x => a x j) n).testBit k = a k j := by rw [bs_bit]; simp [hk]
    by_cases t1 : (bs (fun x => a x k) n).testBit i = true
    · refine br_f (xb1 t1) ?_
      rw [e1] at t1
      refine ⟨7, rfl, q_in (by omega) (by decide), ?_⟩
      rw [hA.get hj (by omega)]
      refine e_M_has σ τ (b31 h7) (by omega) _ ?_
      by_cases t2 : (bs (fun x => a x j) n).testBit k = true
      · refine br_f (xb1 t2) ?_
        rw [e2] at t2
        rw [x_b_t (p := anb (fun k => a i k && a k j) (k + 1) = true) (by simp [anb, t1, t2])] at join
        exact join
      · refine br_t (xb0 t2) ?_
        rw [e2] at t2
        rw [x_b_f (p := anb (fun k => a i k && a k j) (k + 1) = true) (by simp only [anb, Bool.or_eq_true, Bool.and_eq_true]; exact fun z => z.elim t0 (fun y => t2 y.2))] at join
        exact join
    · refine br_t (xb0 t1) ?_
      rw [e1] at t1
      rw [x_b_f (p := anb (fun k => a i k && a k j) (k + 1) = true) (by simp only [anb, Bool.or_eq_true, Bool.and_eq_true]; exact fun z => z.elim t0 (fun y => t1 y.1))] at join
      exact join
  · dsimp only
    refine ev_go 100 [5] ?_
    refine br_t (by rw [hG]; exact nI_le (Nat.le_refl _) (by omega)) ?_
    exact ⟨x_b_01, h⟩
theorem pair_meet (i j : Int32) : Pair m_S_meet m_M_meet [.int i, .int j] := by
  intro σ τ hR
  obtain ⟨P, hC, hM, hV, hK⟩ := hR.2.2.1
  have h7 := hV.1
  refine ev_go 100 [] ?_
  refine e_P_areTwo σ τ i j _ ?_
  rw [hC.1]
  by_cases h2 : ((¬ i < 0 ∧ ¬ nI (pn P) ≤ i) ∧ (¬ j < 0 ∧ ¬ nI (pn P) ≤ j) ∧ ¬ i = j)
  · refine bn_t (xb1 h2) ?_
    refine e_S_closesToRing σ τ hC hV _ (fun σ1 h1 => ?_)
    have hM1 := hM.ag h1.1 (by decide)
    by_cases hr : rg (edP P) (pn P) = true
    · refine br_f (xb1 hr) ?_
      refine e_S_refuse σ1 τ 4 in4 _ ?_
      refine ⟨rfl, ?_⟩
      have hM2 := hM1.ag (Ag.cref (f := 4)) (by decide)
      refine ev_go 100 [] ?_
      refine e_M_arePair _ τ hM2 hV _ _ _ ?_
      refine bn_t (xb1 h2) ?_
      refine e_M_isRingNow _ τ hM2 hV _ (fun σ2 h3 => ?_)
      refine br_f (xb1 hr) ?_
      refine e_M_finds σ2 τ 4 in4 _ ?_
      exact ⟨rfl, rfl, ⟨_, rfl⟩, hR.fnd h1.1 (by decide) (f := 4) (by decide) h3.1 (by decide)⟩
    · refine br_t (xb0 hr) ?_
      obtain ⟨a, b, ha, hb, hab, rfl, rfl⟩ := (q_two hV.1 i j).mp h2
      have mod : ∀ v : Int32, (v = if anb (fun k => wr (edP P) (pn P) a k && wr (edP P) (pn P) k b) (pn P) = true ∨ anb (fun k => wr (edP P) (pn P) b k && wr (edP P) (pn P) k a) (pn P) = true then 0 else 1) → Ev m_M_meet 0 (x_loc [.ref 67, .int (nI a), .int (nI b)] m_M_meet.2.2.1) [] x_g σ1 τ (fun r2 g2 σ2 τ2 => g2 = x_g ∧ some (.int v) = r2 ∧ (∃ w, some (Value.int v) = some w) ∧ Rel σ2 τ2) := by
        intro v hv
        refine ev_go 100 [] ?_
        refine e_M_arePair _ τ hM1 hV _ _ _ ?_
        refine bn_t (xb1 h2) ?_
        refine e_M_isRingNow _ τ hM1 hV _ (fun σ2 h3 => ?_)
        have hfin := (hR.ag h1.1 (by decide)).ag h3.1 (by decide)
        have hM2 := hM1.ag h3.1 (by decide)
        refine br_t (xb0 hr) ?_
        refine e_M_isBetween σ2 τ h7 hM2.1 h3.2.2 ha hb _ ?_
        by_cases t1 : anb (fun k => wr (edP P) (pn P) a k && wr (edP P) (pn P) k b) (pn P) = true
        · refine bn_t (xb1 t1) ?_
          rw [if_pos (Or.inl t1)] at hv
          subst hv
          exact ⟨rfl, rfl, ⟨_, rfl⟩, hfin⟩
        · refine bn_f (xb0 t1) ?_
          refine e_M_isBetween σ2 τ h7 hM2.1 h3.2.2 hb ha _ ?_
          by_cases t2 : anb (fun k => wr (edP P) (pn P) b k && wr (edP P) (pn P) k a) (pn P) = true
          · refine br_f (xb1 t2) ?_
            rw [if_pos (Or.inr t2)] at hv
            subst hv
            exact ⟨rfl, rfl, ⟨_, rfl⟩, hfin⟩
          · refine br_t (xb0 t2) ?_
            rw [if_neg (fun z => z.elim t1 t2)] at hv
            subst hv
            exact ⟨rfl, rfl, ⟨_, rfl⟩, hfin⟩
      refine ⟨7, rfl, q_in (by omega) (by decide), ?_⟩
      rw [h1.2.2.get (by omega) (by omega)]
      refine e_G_surelyAheadOf σ1 τ h7 h1.2.1.1 h1.2.2 hb _ ?_
      refine ⟨7, rfl, q_in (by omega) (by decide), ?_⟩
      rw [h1.2.2.get (by omega) (by omega)]
      refine e_G_surelyAheadOf σ1 τ h7 h1.2.1.1 h1.2.2 ha _ ?_
      have ev : (nI (bs (wr (edP P) (pn P) a) (pn P)) &&& nI (bs (fun i => wr (edP P) (pn P) i b) (pn P))) ||| (nI (bs (wr (edP P) (pn P) b) (pn P)) &&& nI (bs (fun i => wr (edP P) (pn P) i a) (pn P))) = nI (bs (fun k => (wr (edP P) (pn P) a k && wr (edP P) (pn P) k b) || (wr (edP P) (pn P) b k && wr (edP P) (pn P) k a)) (pn P)) := by
        rw [q_and, q_and, bs_and, bs_and, q_or, bs_orb]
      have hiff : bs (fun k => (wr (edP P) (pn P) a k && wr (edP P) (pn P) k b) || (wr (edP P) (pn P) b k && wr (edP P) (pn P) k a)) (pn P) = 0 ↔ ¬ (anb (fun k => wr (edP P) (pn P) a k && wr (edP P) (pn P) k b) (pn P) = true ∨ anb (fun k => wr (edP P) (pn P) b k && wr (edP P) (pn P) k a) (pn P) = true) := by
        rw [bs_eq0, not_or, Bool.not_eq_true, Bool.not_eq_true, anb_no, anb_no]
        constructor
        · intro h
          exact ⟨fun k hk => (Bool.or_eq_false_iff.mp (h k hk)).1, fun k hk => (Bool.or_eq_false_iff.mp (h k hk)).2⟩
        · intro h k hk
          exact Bool.or_eq_false_iff.mpr ⟨h.1 k hk, h.2 k hk⟩
      by_cases hz : bs (fun k => (wr (edP P) (pn P) a k && wr (edP P) (pn P) k b) || (wr (edP P) (pn P) b k && wr (edP P) (pn P) k a)) (pn P) = 0
      · refine bn_f (by rw [ev, hz]; rfl) ?_
        exact ⟨rfl, mod _ (by rw [if_neg (hiff.mp hz)])⟩
      · refine bn_t (by rw [ev]; exact nI_ne0 (Nat.pos_of_ne_zero hz) (b31 h7)) ?_
        exact ⟨rfl, mod _ (by rw [if_pos (Classical.not_not.mp (fun z => hz (hiff.mpr z)))])⟩
  · refine bn_f (xb0 h2) ?_
    refine ⟨rfl, ?_⟩
    refine ev_go 100 [] ?_
    refine e_M_arePair σ τ hM hV _ _ _ ?_
    refine bn_f (xb0 h2) ?_
    exact ⟨rfl, rfl, ⟨_, rfl⟩, hR⟩
