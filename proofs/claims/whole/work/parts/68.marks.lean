/-! TRACKS, CROSSINGS, MARKS -/
theorem PC.o {σ : xS} {P : xP} (h : PC σ 17 P) : Ar σ 21 (pc P) (po P) := fun k hk => (h.2.2.2.2 k hk).1
theorem PC.u {σ : xS} {P : xP} (h : PC σ 17 P) : Ar σ 22 (pc P) (pu P) := fun k hk => (h.2.2.2.2 k hk).2
theorem PM.o {σ : xS} {P : xP} (h : PM σ P) : Ar σ 77 (pc P) (po P) := fun k hk => (h.2.2.2.2 k hk).1
theorem PM.u {σ : xS} {P : xP} (h : PM σ P) : Ar σ 78 (pc P) (pu P) := fun k hk => (h.2.2.2.2 k hk).2
theorem PV.o7 {P : xP} (h : PV P) : ∀ k, k < pc P → po P k < 7 := fun k hk => Nat.lt_of_lt_of_le (h.2.2.2.2 k hk).1 h.1
theorem PV.u7 {P : xP} (h : PV P) : ∀ k, k < pc P → pu P k < 7 := fun k hk => Nat.lt_of_lt_of_le (h.2.2.2.2 k hk).2.1 h.1
theorem e_P_timesIn (σ : xS) (τ : xL) {P : xP} (hP : PC σ 17 P) (hV : PV P) {q i : Nat} {A : Nat → Nat} (hq : x_nth x_sh q = some (16, 16)) (hA : Ar σ q (pc P) A) (hb : ∀ k, k < pc P → A k < 7) (hi : i < 7) : Rn m_P_timesIn [.ref 17, .ref q, .int (nI i)] σ τ (some (.int (nI (cnt (fun k => A k == i) (pc P))))) σ τ := by
  intro Q h
  have h16 := hV.2.1
  refine ev_go 100 [5] ?_
  refine ev_iter (M := m_P_timesIn) (pc := 5) (st := []) (g := x_g) (Q := Q) (pc P) (fun k => ([.ref 17, .ref q, .int (nI i), .int (nI (cnt (fun k => A k == i) k)), .int (nI k)], σ, τ)) (fun k hk kk => ?_) ?_
  · dsimp only at kk ⊢
    have hbk := hb k hk
    refine ev_go 100 [5] ?_
    refine br_f (by rw [hP.2.1]; exact nI_ge hk (by omega)) ?_
    refine ⟨16, hq, q_in (by omega) (by decide), ?_⟩
    rw [hA.get hk (by omega)]
    by_cases ht : A k = i
    · refine bn_f ((q_eq (by omega) (by omega)).mpr ht) ?_
      show Ev m_P_timesIn 5 [.ref 17, .ref q, .int (nI i), .int (nI (cnt (fun k => A k == i) k) + 1), .int (nI k + 1)] [] x_g σ τ Q
      rw [nI_1, nI_1, show cnt (fun k => A k == i) k + 1 = cnt (fun k => A k == i) (k + 1) by simp [cnt, ht]]
      exact kk
    · refine bn_t (fun z => ht ((q_eq (by omega) (by omega)).mp z)) ?_
      show Ev m_P_timesIn 5 [.ref 17, .ref q, .int (nI i), .int (nI (cnt (fun k => A k == i) k)), .int (nI k + 1)] [] x_g σ τ Q
      rw [nI_1, show cnt (fun k => A k == i) k = cnt (fun k => A k == i) (k + 1) by simp [cnt, ht]]
      exact kk
  · dsimp only
    refine ev_go 100 [5] ?_
    refine br_t (by rw [hP.2.1]; exact nI_le (Nat.le_refl _) (by omega)) ?_
    exact h
/-- what is told of a track -/
def tv (P : xP) (i : Nat) : Nat → Int32
  | 0 => nI (pk P i)
  | 1 => nI (pz P i)
  | 2 => if pf P i = 10 then -9 else nI (pf P i)
  | 3 => nI (cnt (fun k => po P k == i) (pc P))
  | _ => nI (cnt (fun k => pu P k == i) (pc P))
theorem k5 {o : Nat} (h : o ≤ 4) : o = 0 ∨ o = 1 ∨ o = 2 ∨ o = 3 ∨ o = 4 := by omega
theorem e_P_ofTrack (σ : xS) (τ : xL) {P : xP} (hP : PC σ 17 P) (hV : PV P) {i w : Nat} (hi : i < pn P) (hw : w ≤ 4) : Rn m_P_ofTrack [.ref 17, .int (nI i), .int (nI w)] σ τ (some (.int (tv P i w))) σ τ := by
  intro Q h
  have h7 := hV.1
  obtain ⟨a1, a2, a3⟩ := hP.2.2.2.1 i hi
  have b3 := (hV.2.2.2.1 i hi).2.2
  have a1 : σ 18 (nI i).toNatClampNeg = nI (pk P i) := by rw [cl7 (by omega)]; exact a1
  have a2 : σ 19 (nI i).toNatClampNeg = nI (pz P i) := by rw [cl7 (by omega)]; exact a2
  have a3 : σ 20 (nI i).toNatClampNeg = nI (pf P i) := by rw [cl7 (by omega)]; exact a3
  rcases k5 hw with rfl | rfl | rfl | rfl | rfl
  · refine ev_go 100 [] ?_
    refine br_t (by decide) ?_
    refine ⟨7, rfl, q_in (by omega) (by decide), ?_⟩
    rw [a1]
    exact h
  · refine ev_go 100 [] ?_
    refine br_f (by decide) ?_
    refine br_t (by decide) ?_
    refine ⟨7, rfl, q_in (by omega) (by decide), ?_⟩
    rw [a2]
    exact h
  · refine ev_go 100 [] ?_
    refine br_f (by decide) ?_
    refine br_f (by decide) ?_
    refine br_t (by decide) ?_
    refine ⟨7, rfl, q_in (by omega) (by decide), ?_⟩
    rw [a3]
    by_cases e : pf P i = 10
    · refine bn_f (by rw [e]; rfl) ?_
      have : tv P i 2 = -9 := if_pos e
      rw [this] at h
      exact h
    · refine bn_t (fun z => e ((q_eq (b := 10) (by omega) (by decide)).mp z)) ?_
      refine ⟨7, rfl, q_in (by omega) (by decide), ?_⟩
      rw [a3]
      have : tv P i 2 = nI (pf P i) := if_neg e
      rw [this] at h
      exact h
  · refine ev_go 100 [] ?_
    refine br_f (by decide) ?_
    refine br_f (by decide) ?_
    refine br_f (by decide) ?_
    refine br_t (by decide) ?_
    refine e_P_timesIn σ τ hP hV rfl hP.o hV.o7 (by omega) _ ?_
    exact h
  · refine ev_go 100 [] ?_
    refine br_f (by decide) ?_
    refine br_f (by decide) ?_
    refine br_f (by decide) ?_
    refine br_f (by decide) ?_
    refine e_P_timesIn σ τ hP hV rfl hP.u hV.u7 (by omega) _ ?_
    exact h
theorem e_M_trackOf (σ : xS) (τ : xL) {P : xP} (hP : PM σ P) (hV : PV P) {i w : Nat} (hi : i < pn P) (hw : w ≤ 4) : Rn m_M_trackOf [.ref 67, .int (nI i), .int (nI w)] σ τ (some (.int (tv P i w))) σ τ := by
  intro Q h
  have h7 := hV.1
  have h16 := hV.2.1
  obtain ⟨a1, a2, a3⟩ := hP.2.2.2.1 i hi
  have b3 := (hV.2.2.2.1 i hi).2.2
  have a1 : σ 74 (nI i).toNatClampNeg = nI (pk P i) := by rw [cl7 (by omega)]; exact a1
  have a2 : σ 75 (nI i).toNatClampNeg = nI (pz P i) := by rw [cl7 (by omega)]; exact a2
  have a3 : σ 76 (nI i).toNatClampNeg = nI (pf P i) := by rw [cl7 (by omega)]; exact a3
  rcases k5 hw with rfl | rfl | rfl | rfl | rfl
  · refine ev_go 100 [] ?_
    refine br_f (by decide) ?_
    refine bn_f (by decide) ?_
    refine ⟨7, rfl, q_in (by omega) (by decide), ?_⟩
    rw [a1]
    exact h
  · refine ev_go 100 [] ?_
    refine br_f (by decide) ?_
    refine bn_t (by decide) ?_
    refine bn_f (by decide) ?_
    refine ⟨7, rfl, q_in (by omega) (by decide), ?_⟩
    rw [a2]
    exact h
  · refine ev_go 100 [] ?_
    refine br_f (by decide) ?_
    refine bn_t (by decide) ?_
    refine bn_t (by decide) ?_
    refine ⟨7, rfl, q_in (by omega) (by decide), ?_⟩
    rw [a3]
    by_cases e : pf P i = 10
    · refine bn_f (by rw [e]; rfl) ?_
      have : tv P i 2 = -9 := if_pos e
      rw [this] at h
      exact h
    · refine bn_t (fun z => e ((q_eq (b := 10) (by omega) (by decide)).mp z)) ?_
      refine ⟨7, rfl, q_in (by omega) (by decide), ?_⟩
      rw [a3]
      have : tv P i 2 = nI (pf P i) := if_neg e
      rw [this] at h
      exact h
  · refine ev_go 100 [60] ?_
    refine br_t (by decide) ?_
    refine ev_iter (M := m_M_trackOf) (pc := 60) (st := []) (g := x_g) (Q := Q) (pc P) (fun k => ([.ref 67, .int (nI i), .int (nI 3), .int (nI (cnt (fun k => po P k == i) k)), .int (nI k)], σ, τ)) (fun k hk kk => ?_) ?_
    · dsimp only at kk ⊢
      have hbk := hV.o7 k hk
      refine ev_go 100 [60] ?_
      refine br_f (by rw [hP.2.1]; exact nI_ge hk (by omega)) ?_
      refine bn_f rfl ?_
      refine ⟨16, rfl, q_in (by omega) (by decide), ?_⟩
      rw [hP.o.get hk (by omega)]
      by_cases ht : po P k = i
      · refine bn_f ((q_eq (by omega) (by omega)).mpr ht) ?_
        show Ev m_M_trackOf 60 [.ref 67, .int (nI i), .int (nI 3), .int (nI (cnt (fun k => po P k == i) k) + 1), .int (nI k + 1)] [] x_g σ τ Q
        rw [nI_1, nI_1, show cnt (fun k => po P k == i) k + 1 = cnt (fun k => po P k == i) (k + 1) by simp [cnt, ht]]
        exact kk
      · refine bn_t (fun z => ht ((q_eq (by omega) (by omega)).mp z)) ?_
        show Ev m_M_trackOf 60 [.ref 67, .int (nI i), .int (nI 3), .int (nI (cnt (fun k => po P k == i) k) + nI 0), .int (nI k + 1)] [] x_g σ τ Q
        rw [nI_1, nI_add, Nat.add_zero, show cnt (fun k => po P k == i) k = cnt (fun k => po P k == i) (k + 1) by simp [cnt, ht]]
        exact kk
    · dsimp only
      refine ev_go 100 [60] ?_
      refine br_t (by rw [hP.2.1]; exact nI_le (Nat.le_refl _) (by omega)) ?_
      exact h
  · refine ev_go 100 [60] ?_
    refine br_t (by decide) ?_
    refine ev_iter (M := m_M_trackOf) (pc := 60) (st := []) (g := x_g) (Q := Q) (pc P) (fun k => ([.ref 67, .int (nI i), .int (nI 4), .int (nI (cnt (fun k => pu P k == i) k)), .int (nI k)], σ, τ)) (fun k hk kk => ?_) ?_
    · dsimp only at kk ⊢
      have hbk := hV.u7 k hk
      refine ev_go 100 [60] ?_
      refine br_f (by rw [hP.2.1]; exact nI_ge hk (by omega)) ?_
      refine bn_t (by decide) ?_
      refine ⟨16, rfl, q_in (by omega) (by decide), ?_⟩
      rw [hP.u.get hk (by omega)]
      by_cases ht : pu P k = i
      · refine bn_f ((q_eq (by omega) (by omega)).mpr ht) ?_
        show Ev m_M_trackOf 60 [.ref 67, .int (nI i), .int (nI 4), .int (nI (cnt (fun k => pu P k == i) k) + 1), .int (nI k + 1)] [] x_g σ τ Q
        rw [nI_1, nI_1, show cnt (fun k => pu P k == i) k + 1 = cnt (fun k => pu P k == i) (k + 1) by simp [cnt, ht]]
        exact kk
      · refine bn_t (fun z => ht ((q_eq (by omega) (by omega)).mp z)) ?_
        show Ev m_M_trackOf 60 [.ref 67, .int (nI i), .int (nI 4), .int (nI (cnt (fun k => pu P k == i) k) + nI 0), .int (nI k + 1)] [] x_g σ τ Q
        rw [nI_1, nI_add, Nat.add_zero, show cnt (fun k => pu P k == i) k = cnt (fun k => pu P k == i) (k + 1) by simp [cnt, ht]]
        exact kk
    · dsimp only
      refine ev_go 100 [60] ?_
      refine br_t (by rw [hP.2.1]; exact nI_le (Nat.le_refl _) (by omega)) ?_
      exact h
theorem pair_track (i v : Int32) : Pair m_S_track m_M_track [.int i, .int v] := by
  intro σ τ hR
  obtain ⟨P, hC, hM, hV, hK⟩ := hR.2.2.1
  have h7 := hV.1
  refine ev_go 100 [] ?_
  refine e_P_isTrack σ τ i _ ?_
  have bad : ¬ ((¬ i < 0 ∧ ¬ nI (pn P) ≤ i) ∧ ¬ v < 0 ∧ ¬ 4 < v) → Ev m_M_track 0 (x_loc [.ref 67, .int i, .int v] m_M_track.2.2.1) [] x_g σ τ (fun r2 g2 σ2 τ2 => g2 = x_g ∧ some (Value.int (-1)) = r2 ∧ (∃ v, some (Value.int (-1)) = some v) ∧ Rel σ2 τ2) := by
    intro h0
    refine ev_go 100 [] ?_
    refine e_M_isTrack σ τ hM hV i _ ?_
    by_cases h1 : ¬ i < 0 ∧ ¬ nI (pn P) ≤ i
    · refine br_f (xb1 h1) ?_
      refine e_M_in σ τ v 0 4 _ ?_
      refine br_t (xb0 (fun q => h0 ⟨h1, q⟩)) ?_
      exact ⟨rfl, rfl, ⟨_, rfl⟩, hR⟩
    · refine br_t (xb0 h1) ?_
      exact ⟨rfl, rfl, ⟨_, rfl⟩, hR⟩
  rw [hC.1]
  by_cases h1 : ¬ i < 0 ∧ ¬ nI (pn P) ≤ i
  · refine br_f (xb1 h1) ?_
    refine And.intro (fun h2 => ?_) (fun h2 => And.intro (fun h3 => ?_) (fun h3 => ?_))
    · exact ⟨rfl, bad (fun q => q.2.1 h2)⟩
    · obtain ⟨k, hk, rfl⟩ := (q_trk h7 i).mp h1
      obtain ⟨w, hw, rfl⟩ := nI_of2 (M := 4) (n := 4) (by decide) h2 h3
      refine e_P_ofTrack σ τ hC hV hk hw _ ?_
      refine ⟨rfl, ?_⟩
      have hM1 := hM.ag (Ag.ctold (v := tv P k w)) (by decide)
      refine ev_go 100 [] ?_
      refine e_M_isTrack _ τ hM1 hV _ _ ?_
      refine br_f (xb1 h1) ?_
      refine e_M_in _ τ _ 0 4 _ ?_
      refine br_f (xb1 ⟨h2, Int32.not_lt.mpr h3⟩) ?_
      refine e_M_trackOf _ τ hM1 hV hk hw _ ?_
      refine e_M_tells _ τ _ _ _ ?_
      exact ⟨rfl, rfl, ⟨_, rfl⟩, hR.told _⟩
    · exact ⟨rfl, bad (fun q => q.2.2 (Int32.not_le.mp h3))⟩
  · refine br_t (xb0 h1) ?_
    exact ⟨rfl, bad (fun q => h1 q.1)⟩
theorem nI10 (a b : Nat) : (10 : Int32) * nI a + nI b = nI (10 * a + b) := by rw [show (10 : Int32) = nI 10 from rfl, pk_mul, nI_add]
theorem e_P_pairOf (σ : xS) (τ : xL) {P : xP} (hP : PC σ 17 P) (hV : PV P) {k : Nat} (hk : k < pc P) : Rn m_P_pairOf [.ref 17, .int (nI k)] σ τ (some (.int (nI (10 * po P k + pu P k)))) σ τ := by
  intro Q h
  have h16 := hV.2.1
  refine ev_go 100 [] ?_
  refine ⟨16, rfl, q_in (by omega) (by decide), ?_⟩
  rw [hP.o.get hk (by omega)]
  refine ⟨16, rfl, q_in (by omega) (by decide), ?_⟩
  rw [hP.u.get hk (by omega)]
  show Q (some (.int ((10 : Int32) * nI (po P k) + nI (pu P k)))) x_g σ τ
  rw [nI10]
  exact h
theorem pair_crossing (k : Int32) : Pair m_S_crossing m_M_crossing [.int k] := by
  intro σ τ hR
  obtain ⟨P, hC, hM, hV, hK⟩ := hR.2.2.1
  have h16 := hV.2.1
  refine ev_go 100 [] ?_
  refine And.intro (fun h1 => ?_) (fun h1 => ?_)
  · have h1' : ¬ k < 0 := Int32.not_lt.mpr h1
    refine And.intro (fun h2 => ?_) (fun h2 => ?_) <;> rw [hC.2.1] at h2
    · obtain ⟨j, hj, rfl⟩ := (pk_ix k (n := pc P) (by omega)).resolve_left h1' |>.resolve_left (fun z => Int32.not_lt.mpr z h2)
      have key : ∀ (v : Int32), v = x_b (tl P j = true) → Ev m_P_pairOf 0 (x_loc [.ref 17, .int (nI j)] m_P_pairOf.2.2.1) [] x_g (c_told σ v) τ (fun r1 g1 σ1 τ1 => g1 = x_g ∧ r1 = some (.int (nI (10 * po P j + pu P j))) ∧ σ1 = c_told σ v ∧ τ1 = τ) := fun v hv => e_P_pairOf _ τ (hC.ag (Ag.ctold (v := v)) (by decide)) hV hj _ ⟨rfl, rfl, rfl, rfl⟩
      have fin : ∀ (v : Int32), v = x_b (tl P j = true) → Ev m_M_crossing 0 (x_loc [.ref 67, .int (nI j)] m_M_crossing.2.2.1) [] x_g (c_told σ v) τ (fun r2 g2 σ2 τ2 => g2 = x_g ∧ some (.int (nI (10 * po P j + pu P j))) = r2 ∧ (∃ w, some (Value.int (nI (10 * po P j + pu P j))) = some w) ∧ Rel σ2 τ2) := by
        intro v hv
        have hM1 := hM.ag (Ag.ctold (v := v)) (by decide)
        refine ev_go 100 [] ?_
        refine br_t h1 ?_
        refine br_f (by rw [hM1.2.1]; exact nI_ge hj (by omega)) ?_
        refine e_M_isTelling _ τ hM1 hV hj _ ?_
        by_cases ht : tl P j = true
        · rw [x_b_t ht] at hv
          subst hv
          refine br_f (xb1 ht) ?_
          refine ⟨16, rfl, q_in (by omega) (by decide), ?_⟩
          rw [hM1.o.get hj (by omega)]
          refine ⟨16, rfl, q_in (by omega) (by decide), ?_⟩
          rw [hM1.u.get hj (by omega)]
          refine e_M_tells _ τ _ _ _ ?_
          rw [nI10]
          exact ⟨rfl, rfl, ⟨_, rfl⟩, hR.told _⟩
        · rw [x_b_f ht] at hv
          subst hv
          refine br_t (xb0 ht) ?_
          refine ⟨16, rfl, q_in (by omega) (by decide), ?_⟩
          rw [hM1.o.get hj (by omega)]
          refine ⟨16, rfl, q_in (by omega) (by decide), ?_⟩
          rw [hM1.u.get hj (by omega)]
          refine e_M_tells _ τ _ _ _ ?_
          rw [nI10]
          exact ⟨rfl, rfl, ⟨_, rfl⟩, hR.told _⟩
      refine e_P_tells σ τ hC hV hj _ ?_
      by_cases ht : tl P j = true
      · refine br_f (xb1 ht) ?_
        refine (key 1 (x_b_t ht).symm).mono ?_
        rintro r g1 σ1 τ1 ⟨rfl, rfl, rfl, rfl⟩
        exact ⟨rfl, fin 1 (x_b_t ht).symm⟩
      · refine br_t (xb0 ht) ?_
        refine (key 0 (x_b_f ht).symm).mono ?_
        rintro r g1 σ1 τ1 ⟨rfl, rfl, rfl, rfl⟩
        exact ⟨rfl, fin 0 (x_b_f ht).symm⟩
    · refine e_S_refuse σ τ 2 in2 _ ?_
      refine ⟨rfl, ?_⟩
      have hM1 := hM.ag (Ag.cref (f := 2)) (by decide)
      refine ev_go 100 [] ?_
      refine br_t h1 ?_
      refine br_t (by rw [hM1.2.1]; exact Int32.not_lt.mp h2) ?_
      refine e_M_finds _ τ 2 in2 _ ?_
      exact ⟨rfl, rfl, ⟨_, rfl⟩, hR.find (f := 2) (by decide)⟩
  · refine ⟨rfl, ?_⟩
    refine ev_go 100 [] ?_
    refine br_f h1 ?_
    exact ⟨rfl, rfl, ⟨_, rfl⟩, hR⟩
