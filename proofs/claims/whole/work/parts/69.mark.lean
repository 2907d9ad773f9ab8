/-- in how many silent crossings a track is at an end -/
def sil (P : xP) (A : Nat → Nat) (i : Nat) : Nat → Bool := fun k => A k == i && !tl P k
theorem e_P_silentAt (σ : xS) (τ : xL) {P : xP} (hP : PC σ 17 P) (hV : PV P) {q i : Nat} {A : Nat → Nat} (hq : x_nth x_sh q = some (16, 16)) (hA : Ar σ q (pc P) A) (hb : ∀ k, k < pc P → A k < 7) (hi : i < 7) : Rn m_P_silentAt [.ref 17, .ref q, .int (nI i)] σ τ (some (.int (nI (cnt (sil P A i) (pc P))))) σ τ := by
  intro Q h
  have h16 := hV.2.1
  refine ev_go 100 [5] ?_
  refine ev_iter (M := m_P_silentAt) (pc := 5) (st := []) (g := x_g) (Q := Q) (pc P) (fun k => ([.ref 17, .ref q, .int (nI i), .int (nI (cnt (sil P A i) k)), .int (nI k)], σ, τ)) (fun k hk kk => ?_) ?_
  · dsimp only at kk ⊢
    have hbk := hb k hk
    have no : ¬ sil P A i k = true → Ev m_P_silentAt 5 [.ref 17, .ref q, .int (nI i), .int (nI (cnt (sil P A i) k)), .int (nI k + 1)] [] x_g σ τ Q := fun z => by
      rw [nI_1, show cnt (sil P A i) k = cnt (sil P A i) (k + 1) by simp [cnt, z]]
      exact kk
    refine ev_go 100 [5] ?_
    refine br_f (by rw [hP.2.1]; exact nI_ge hk (by omega)) ?_
    refine ⟨16, hq, q_in (by omega) (by decide), ?_⟩
    rw [hA.get hk (by omega)]
    by_cases ht : A k = i
    · refine bn_f ((q_eq (by omega) (by omega)).mpr ht) ?_
      refine e_P_tells σ τ hP hV hk _ ?_
      by_cases hl : tl P k = true
      · refine bn_t (xb1 hl) ?_
        exact no (by simp [sil, hl])
      · refine bn_f (xb0 hl) ?_
        show Ev m_P_silentAt 5 [.ref 17, .ref q, .int (nI i), .int (nI (cnt (sil P A i) k) + 1), .int (nI k + 1)] [] x_g σ τ Q
        rw [nI_1, nI_1, show cnt (sil P A i) k + 1 = cnt (sil P A i) (k + 1) by simp [cnt, sil, ht, hl]]
        exact kk
    · refine bn_t (fun z => ht ((q_eq (by omega) (by omega)).mp z)) ?_
      exact no (by simp [sil, ht])
  · dsimp only
    refine ev_go 100 [5] ?_
    refine br_t (by rw [hP.2.1]; exact nI_le (Nat.le_refl _) (by omega)) ?_
    exact h
/-- those at the other ends -/
def op (A B : Nat → Nat) (i c : Nat) : Nat → Bool := fun j => anb (fun k => A k == i && B k == j) c
theorem opst {A B : Nat → Nat} {i c : Nat} (j : Nat) : op A B i (c + 1) j = (op A B i c j || (A c == i && B c == j)) := rfl
theorem opy {A B : Nat → Nat} {i c n : Nat} (h : A c = i) (hb : B c < n) {f : Nat → Bool} : bs (fun j => op A B i c j || f j) n ||| 2 ^ B c = bs (fun j => op A B i (c + 1) j || f j) n := by
  rw [bs_or hb]
  refine bs_ext (fun j _ => ?_)
  rw [opst, h]
  simp only [beq_self_eq_true, Bool.true_and]
  rw [Bool.beq_comm (a := j)]
  cases op A B i c j <;> cases f j <;> cases (B c == j) <;> rfl
theorem opn {A B : Nat → Nat} {i c n : Nat} (h : ¬ A c = i) {f : Nat → Bool} : bs (fun j => op A B i c j || f j) n = bs (fun j => op A B i (c + 1) j || f j) n := by
  refine bs_ext (fun j _ => ?_)
  rw [opst, show (A c == i) = false from beq_eq_false_iff_ne.mpr h]
  simp
theorem opz {A B : Nat → Nat} {i n : Nat} {c : Nat} : bs (op A B i c) n = bs (fun j => op A B i c j || false) n := bs_ext (fun j _ => (Bool.or_false _).symm)
theorem e_P_opposite (σ : xS) (τ : xL) {P : xP} (hP : PC σ 17 P) (hV : PV P) {qa qb i : Nat} {A B : Nat → Nat} (hqa : x_nth x_sh qa = some (16, 16)) (hA : Ar σ qa (pc P) A) (ha : ∀ k, k < pc P → A k < pn P) (hqb : x_nth x_sh qb = some (16, 16)) (hB : Ar σ qb (pc P) B) (hb : ∀ k, k < pc P → B k < pn P) (hi : i < 7) : Rn m_P_opposite [.ref 17, .ref qa, .ref qb, .int (nI i)] σ τ (some (.int (nI (bs (op A B i (pc P)) (pn P))))) σ τ := by
  intro Q h
  have h16 := hV.2.1
  have h7 := hV.1
  refine ev_go 100 [6] ?_
  have e0 : bs (fun j => op A B i 0 j || false) (pn P) = 0 := bs_0
  have := ev_iter (M := m_P_opposite) (pc := 6) (st := []) (g := x_g) (Q := Q) (pc P) (fun k => ([.ref 17, .ref qa, .ref qb, .int (nI i), .int (nI (bs (fun j => op A B i k j || false) (pn P))), .int (nI k)], σ, τ)) (fun k hk kk => ?_) ?_
  · dsimp only at this
    rw [e0] at this
    exact this
  · dsimp only at kk ⊢
    have hak := ha k hk
    have hbk := hb k hk
    refine ev_go 100 [6] ?_
    refine br_f (by rw [hP.2.1]; exact nI_ge hk (by omega)) ?_
    refine ⟨16, hqa, q_in (by omega) (by decide), ?_⟩
    rw [hA.get hk (by omega)]
    by_cases ht : A k = i
    · refine bn_f ((q_eq (by omega) (by omega)).mpr ht) ?_
      refine ⟨16, hqb, q_in (by omega) (by decide), ?_⟩
      rw [hB.get hk (by omega)]
      show Ev m_P_opposite 6 [.ref 17, .ref qa, .ref qb, .int (nI i), .int (nI (bs (fun j => op A B i k j || false) (pn P)) ||| ((1 : Int32) <<< (nI (B k) &&& 31))), .int (nI k + 1)] [] x_g σ τ Q
      rw [q_shl1 (by omega), q_or, opy ht hbk, nI_1]
      exact kk
    · refine bn_t (fun z => ht ((q_eq (by omega) (by omega)).mp z)) ?_
      show Ev m_P_opposite 6 [.ref 17, .ref qa, .ref qb, .int (nI i), .int (nI (bs (fun j => op A B i k j || false) (pn P))), .int (nI k + 1)] [] x_g σ τ Q
      rw [nI_1, opn ht]
      exact kk
  · dsimp only
    refine ev_go 100 [6] ?_
    refine br_t (by rw [hP.2.1]; exact nI_le (Nat.le_refl _) (by omega)) ?_
    rw [opz] at h
    exact h
theorem PV.on {P : xP} (h : PV P) : ∀ k, k < pc P → po P k < pn P := fun k hk => (h.2.2.2.2 k hk).1
theorem PV.un {P : xP} (h : PV P) : ∀ k, k < pc P → pu P k < pn P := fun k hk => (h.2.2.2.2 k hk).2.1
/-- whom a track crosses -/
def crd (P : xP) (i : Nat) : Nat → Bool := fun j => op (po P) (pu P) i (pc P) j || op (pu P) (po P) i (pc P) j
theorem e_P_tracksCrossed (σ : xS) (τ : xL) {P : xP} (hP : PC σ 17 P) (hV : PV P) {i : Nat} (hi : i < 7) : Rn m_P_tracksCrossed [.ref 17, .int (nI i)] σ τ (some (.int (nI (bs (crd P i) (pn P))))) σ τ := by
  intro Q h
  refine ev_go 100 [] ?_
  refine e_P_opposite σ τ hP hV rfl hP.o hV.on rfl hP.u hV.un hi _ ?_
  refine e_P_opposite σ τ hP hV rfl hP.u hV.un rfl hP.o hV.on hi _ ?_
  show Q (some (.int (nI (bs (op (po P) (pu P) i (pc P)) (pn P)) ||| nI (bs (op (pu P) (po P) i (pc P)) (pn P))))) x_g σ τ
  rw [q_or, bs_orb]
  exact h
theorem e_P_haresUnder (σ : xS) (τ : xL) {P : xP} (hP : PC σ 17 P) (hV : PV P) {i : Nat} (hi : i < 7) : Rn m_P_haresUnder [.ref 17, .int (nI i)] σ τ (some (.int (nI (cnt (fun j => op (po P) (pu P) i (pc P) j && knd P 2 j) (pn P))))) σ τ := by
  intro Q h
  have h7 := hV.1
  refine ev_go 100 [19] ?_
  refine e_P_opposite σ τ hP hV rfl hP.o hV.on rfl hP.u hV.un hi _ ?_
  have hlt : bs (op (po P) (pu P) i (pc P)) (pn P) < 2 ^ 31 := b31 h7
  refine ev_iter (M := m_P_haresUnder) (pc := 19) (st := []) (g := x_g) (Q := Q) (pn P) (fun k => ([.ref 17, .int (nI i), .int (nI (bs (op (po P) (pu P) i (pc P)) (pn P))), .int (nI (cnt (fun j => op (po P) (pu P) i (pc P) j && knd P 2 j) k)), .int (nI k)], σ, τ)) (fun k hk kk => ?_) ?_
  · dsimp only at kk ⊢
    have no : ¬ (op (po P) (pu P) i (pc P) k && knd P 2 k) = true → Ev m_P_haresUnder 19 [.ref 17, .int (nI i), .int (nI (bs (op (po P) (pu P) i (pc P)) (pn P))), .int (nI (cnt (fun j => op (po P) (pu P) i (pc P) j && knd P 2 j) k)), .int (nI k + 1)] [] x_g σ τ Q := fun z => by
      rw [nI_1, show cnt (fun j => op (po P) (pu P) i (pc P) j && knd P 2 j) k = cnt (fun j => op (po P) (pu P) i (pc P) j && knd P 2 j) (k + 1) by simp only [cnt]; rw [if_neg z]; rfl]
      exact kk
    have eb : (bs (op (po P) (pu P) i (pc P)) (pn P)).testBit k = op (po P) (pu P) i (pc P) k := by rw [bs_bit]; simp [hk]
    refine ev_go 100 [19] ?_
    refine br_f (by rw [hP.1]; exact nI_ge hk (by omega)) ?_
    refine e_S_has σ τ hlt (by omega) _ ?_
    rw [eb]
    by_cases h1 : op (po P) (pu P) i (pc P) k = true
    · refine br_f (xb1 h1) ?_
      refine e_P_isOfKind σ τ hP hV hk (w := 2) (by decide) _ ?_
      by_cases h2 : knd P 2 k = true
      · refine br_f (xb1 h2) ?_
        show Ev m_P_haresUnder 19 [.ref 17, .int (nI i), .int (nI (bs (op (po P) (pu P) i (pc P)) (pn P))), .int (nI (cnt (fun j => op (po P) (pu P) i (pc P) j && knd P 2 j) k) + 1), .int (nI k + 1)] [] x_g σ τ Q
        rw [nI_1, nI_1, show cnt (fun j => op (po P) (pu P) i (pc P) j && knd P 2 j) k + 1 = cnt (fun j => op (po P) (pu P) i (pc P) j && knd P 2 j) (k + 1) by simp only [cnt]; rw [if_pos (by rw [h1, h2]; rfl)]]
        exact kk
      · refine br_t (xb0 h2) ?_
        exact no (by simp [h2])
    · refine br_t (xb0 h1) ?_
      exact no (by simp [h1])
  · dsimp only
    refine ev_go 100 [19] ?_
    refine br_t (by rw [hP.1]; exact nI_le (Nat.le_refl _) (by omega)) ?_
    exact h
theorem e_M_beside (σ : xS) (τ : xL) {P : xP} (hP : PM σ P) (hV : PV P) {i : Nat} (hi : i < 7) {v : Int32} {b : Bool} (hv : (v = 1 ∧ b = true) ∨ (v = 0 ∧ b = false)) : Rn m_M_beside [.ref 67, .int (nI i), .int 1, .int v] σ τ (some (.int (nI (bs (fun j => op (po P) (pu P) i (pc P) j || (b && op (pu P) (po P) i (pc P) j)) (pn P))))) σ τ := by
  intro Q h
  have h16 := hV.2.1
  have h7 := hV.1
  refine ev_go 100 [6] ?_
  have e0 : bs (fun j => op (po P) (pu P) i 0 j || (b && op (pu P) (po P) i 0 j)) (pn P) = 0 := by
    refine (bs_ext (fun j _ => ?_)).trans (bs_0 (n := pn P))
    cases b <;> rfl
  have := ev_iter (M := m_M_beside) (pc := 6) (st := []) (g := x_g) (Q := Q) (pc P) (fun k => ([.ref 67, .int (nI i), .int 1, .int v, .int (nI (bs (fun j => op (po P) (pu P) i k j || (b && op (pu P) (po P) i k j)) (pn P))), .int (nI k)], σ, τ)) (fun k hk kk => ?_) ?_
  · dsimp only at this
    rw [e0] at this
    exact this
  · dsimp only at kk ⊢
    have hak := hV.on k hk
    have hbk := hV.un k hk
    have second : Ev m_M_beside 48 [.ref 67, .int (nI i), .int 1, .int v, .int (nI (bs (fun j => op (po P) (pu P) i (k + 1) j || (b && op (pu P) (po P) i k j)) (pn P))), .int (nI k)] [] x_g σ τ Q := by
      have no : bs (fun j => op (po P) (pu P) i (k + 1) j || (b && op (pu P) (po P) i k j)) (pn P) = bs (fun j => op (po P) (pu P) i (k + 1) j || (b && op (pu P) (po P) i (k + 1) j)) (pn P) → Ev m_M_beside 6 [.ref 67, .int (nI i), .int 1, .int v, .int (nI (bs (fun j => op (po P) (pu P) i (k + 1) j || (b && op (pu P) (po P) i k j)) (pn P)) ||| nI 0), .int (nI k + 1)] [] x_g σ τ Q := fun z => by
        rw [nI_1, q_or, Nat.or_zero, z]
        exact kk
      refine ev_go 100 [6] ?_
      rcases hv with ⟨rfl, rfl⟩ | ⟨rfl, rfl⟩
      · refine br_f (by decide) ?_
        refine ⟨16, rfl, q_in (by omega) (by decide), ?_⟩
        rw [hP.u.get hk (by omega)]
        by_cases ht : pu P k = i
        · refine bn_f ((q_eq (by omega) (by omega)).mpr ht) ?_
          refine ⟨16, rfl, q_in (by omega) (by decide), ?_⟩
          rw [hP.o.get hk (by omega)]
          show Ev m_M_beside 6 [.ref 67, .int (nI i), .int 1, .int 1, .int (nI (bs (fun j => op (po P) (pu P) i (k + 1) j || (true && op (pu P) (po P) i k j)) (pn P)) ||| ((1 : Int32) <<< (nI (po P k) &&& 31))), .int (nI k + 1)] [] x_g σ τ Q
          rw [q_shl1 (by omega), q_or, nI_1]
          have e1 : bs (fun j => op (po P) (pu P) i (k + 1) j || (true && op (pu P) (po P) i k j)) (pn P) = bs (fun j => op (pu P) (po P) i k j || op (po P) (pu P) i (k + 1) j) (pn P) := bs_ext (fun j _ => by rw [Bool.true_and, Bool.or_comm])
          have e2 : bs (fun j => op (po P) (pu P) i (k + 1) j || (true && op (pu P) (po P) i (k + 1) j)) (pn P) = bs (fun j => op (pu P) (po P) i (k + 1) j || op (po P) (pu P) i (k + 1) j) (pn P) := bs_ext (fun j _ => by rw [Bool.true_and, Bool.or_comm])
          rw [e1, opy ht hak, ← e2]
          exact kk
        · refine bn_t (fun z => ht ((q_eq (by omega) (by omega)).mp z)) ?_
          refine no (bs_ext (fun j _ => ?_))
          rw [opst (A := pu P), show (pu P k == i) = false from beq_eq_false_iff_ne.mpr ht]
          simp
      · refine br_t rfl ?_
        exact no rfl
    have e1 : bs (fun j => op (po P) (pu P) i k j || (b && op (pu P) (po P) i k j)) (pn P) ||| 0 = bs (fun j => op (po P) (pu P) i k j || (b && op (pu P) (po P) i k j)) (pn P) := Nat.or_zero _
    refine ev_go 100 [6, 48] ?_
    refine br_f (by rw [hP.2.1]; exact nI_ge hk (by omega)) ?_
    refine br_f (by decide) ?_
    refine ⟨16, rfl, q_in (by omega) (by decide), ?_⟩
    rw [hP.o.get hk (by omega)]
    by_cases ht : po P k = i
    · refine bn_f ((q_eq (by omega) (by omega)).mpr ht) ?_
      refine ⟨16, rfl, q_in (by omega) (by decide), ?_⟩
      rw [hP.u.get hk (by omega)]
      show Ev m_M_beside 48 [.ref 67, .int (nI i), .int 1, .int v, .int (nI (bs (fun j => op (po P) (pu P) i k j || (b && op (pu P) (po P) i k j)) (pn P)) ||| ((1 : Int32) <<< (nI (pu P k) &&& 31))), .int (nI k)] [] x_g σ τ Q
      rw [q_shl1 (by omega), q_or, opy ht hbk]
      exact second
    · refine bn_t (fun z => ht ((q_eq (by omega) (by omega)).mp z)) ?_
      show Ev m_M_beside 48 [.ref 67, .int (nI i), .int 1, .int v, .int (nI (bs (fun j => op (po P) (pu P) i k j || (b && op (pu P) (po P) i k j)) (pn P)) ||| nI 0), .int (nI k)] [] x_g σ τ Q
      rw [q_or, Nat.or_zero, opn ht]
      exact second
  · dsimp only
    refine ev_go 100 [6] ?_
    refine br_t (by rw [hP.2.1]; exact nI_le (Nat.le_refl _) (by omega)) ?_
    exact h
/-- the model's answer to mark, behind its bars -/
theorem e_M_mark_loop (σ : xS) (τ : xL) {P : xP} (hP : PM σ P) (hV : PV P) {i w : Nat} (hi : i < pn P) (hw : w ≤ 5) {q : Nat} {A : Nat → Nat} (hq : (w = 1 ∧ A = po P) ∨ (¬ w = 1 ∧ A = pu P)) {Q : xQ} (kend : ∀ u : Value, Ev m_M_mark 109 [.ref 67, .int (nI i), .int (nI w), .int (nI (cnt (sil P A i) (pc P))), .int (nI (pc P)), u] [] x_g σ τ Q) : ∀ u : Value, Ev m_M_mark 39 [.ref 67, .int (nI i), .int (nI w), .int (nI 0), .int (nI 0), u] [] x_g σ τ Q := by
  intro u
  have h16 := hV.2.1
  have h7 := hV.1
  refine ev_lj (α := Value) (M := m_M_mark) (pc := 39) (st := []) (g := x_g) (Q := Q) (τ := τ) (pc P) (fun k u => [.ref 67, .int (nI i), .int (nI w), .int (nI (cnt (sil P A i) k)), .int (nI k), u]) (fun _ σ' => σ' = σ) (fun k hk u σ1 hI kk => ?_) (fun u σ1 hI => ?_) u σ rfl
  · subst hI
    have hak := hV.on k hk
    have hbk := hV.un k hk
    have hAk : A k < pn P := by rcases hq with ⟨-, rfl⟩ | ⟨-, rfl⟩ <;> assumption
    have rest : Ev m_M_mark 70 [.ref 67, .int (nI i), .int (nI w), .int (nI (cnt (sil P A i) k)), .int (nI k), u] [.int (nI (A k))] x_g σ1 τ Q := by
      have no : ∀ u : Value, ¬ sil P A i k = true → Ev m_M_mark 39 [.ref 67, .int (nI i), .int (nI w), .int (nI (cnt (sil P A i) k) + nI 0), .int (nI k + 1), u] [] x_g σ1 τ Q := fun u z => by
        rw [nI_1, nI_add, Nat.add_zero, show cnt (sil P A i) k = cnt (sil P A i) (k + 1) by simp only [cnt]; rw [if_neg z]; rfl]
        exact kk u σ1 rfl
      refine ev_go 100 [39] ?_
      by_cases ht : A k = i
      · refine bn_f ((q_eq (by omega) (by omega)).mpr ht) ?_
        refine br_f (by decide) ?_
        refine e_M_isTelling σ1 τ hP hV hk _ ?_
        by_cases hl : tl P k = true
        · refine bn_t (xb1 hl) ?_
          exact no _ (by simp [sil, hl])
        · refine bn_f (xb0 hl) ?_
          show Ev m_M_mark 39 [.ref 67, .int (nI i), .int (nI w), .int (nI (cnt (sil P A i) k) + 1), .int (nI k + 1), .int 1] [] x_g σ1 τ Q
          rw [nI_1, nI_1, show cnt (sil P A i) k + 1 = cnt (sil P A i) (k + 1) by simp [cnt, sil, ht, hl]]
          exact kk _ σ1 rfl
      · refine bn_t (fun z => ht ((q_eq (by omega) (by omega)).mp z)) ?_
        refine br_t rfl ?_
        exact no _ (by simp [sil, ht])
    refine ev_go 100 [70] ?_
    refine br_f (by rw [hP.2.1]; exact nI_ge hk (by omega)) ?_
    rcases hq with ⟨rfl, rfl⟩ | ⟨hw1, rfl⟩
    · refine bn_f rfl ?_
      refine ⟨16, rfl, q_in (by omega) (by decide), ?_⟩
      rw [hP.o.get hk (by omega)]
      exact rest
    · refine bn_t (fun z => hw1 ((q_eq (b := 1) (by omega) (by decide)).mp z)) ?_
      refine ⟨16, rfl, q_in (by omega) (by decide), ?_⟩
      rw [hP.u.get hk (by omega)]
      exact rest
  · subst hI
    refine ev_go 100 [109] ?_
    refine br_t (by rw [hP.2.1]; exact nI_le (Nat.le_refl _) (by omega)) ?_
    exact kend u
theorem e_M_bitsE (σ : xS) (τ : xL) {x : Int32} {s : Nat} (hx : x = nI s) (hs : s < 2 ^ 31) : Rn m_M_bits [.int x] σ τ (some (.int (nI (pp s)))) σ τ := by
  subst hx
  exact e_M_bits σ τ hs
theorem k15 {o : Nat} (h : o ≤ 5) (h0 : ¬ o = 0) : o = 1 ∨ o = 2 ∨ o = 3 ∨ o = 4 ∨ o = 5 := by omega
theorem pair_mark (i v : Int32) : Pair m_S_mark m_M_mark [.int i, .int v] := by
  intro σ τ hR
  obtain ⟨P, hC, hM, hV, hK⟩ := hR.2.2.1
  have h7 := hV.1
  have h16 := hV.2.1
  refine ev_go 100 [] ?_
  refine e_P_isTrack σ τ i _ ?_
  have bad : ¬ ((¬ i < 0 ∧ ¬ nI (pn P) ≤ i) ∧ ¬ v < 1 ∧ ¬ 5 < v) → Ev m_M_mark 0 (x_loc [.ref 67, .int i, .int v] m_M_mark.2.2.1) [] x_g σ τ (fun r2 g2 σ2 τ2 => g2 = x_g ∧ some (Value.int (-1)) = r2 ∧ (∃ v, some (Value.int (-1)) = some v) ∧ Rel σ2 τ2) := by
    intro h0
    refine ev_go 100 [] ?_
    refine e_M_isTrack σ τ hM hV i _ ?_
    by_cases h1 : ¬ i < 0 ∧ ¬ nI (pn P) ≤ i
    · refine br_f (xb1 h1) ?_
      refine e_M_in σ τ v 1 5 _ ?_
      refine bn_f (xb0 (fun q => h0 ⟨h1, q⟩)) ?_
      exact ⟨rfl, rfl, ⟨_, rfl⟩, hR⟩
    · refine br_t (xb0 h1) ?_
      exact ⟨rfl, rfl, ⟨_, rfl⟩, hR⟩
  rw [hC.1]
  by_cases h1 : ¬ i < 0 ∧ ¬ nI (pn P) ≤ i
  · refine br_f (xb1 h1) ?_
    refine And.intro (fun h2 => ?_) (fun h2 => And.intro (fun h3 => ?_) (fun h3 => ?_))
    · exact ⟨rfl, bad (fun q => q.2.1 h2)⟩
    · obtain ⟨k, hk, rfl⟩ := (q_trk h7 i).mp h1
      have h2' : ¬ v < 0 := fun z => h2 (Int32.lt_iff_toInt_lt.mpr (by have := Int32.lt_iff_toInt_lt.mp z; have e : (1 : Int32).toInt = 1 := rfl; have e0 : (0 : Int32).toInt = 0 := rfl; omega))
      obtain ⟨w, hw, rfl⟩ := nI_of2 (M := 5) (n := 5) (by decide) h2' h3
      have hw0 : ¬ w = 0 := fun z => h2 (by rw [z]; decide)
      refine e_P_isOfKind σ τ hC hV hk hw _ ?_
      have mhead : ∀ (σ1 : xS), PM σ1 P → ∀ (Q : xQ), Ev m_M_mark 19 [.ref 67, .int (nI k), .int (nI w), .null, .null, .null] [] x_g σ1 τ Q → Ev m_M_mark 0 (x_loc [.ref 67, .int (nI k), .int (nI w)] m_M_mark.2.2.1) [] x_g σ1 τ Q := by
        intro σ1 hM1 Q kk
        refine ev_go 100 [19] ?_
        refine e_M_isTrack σ1 τ hM1 hV _ _ ?_
        refine br_f (xb1 h1) ?_
        refine e_M_in σ1 τ _ 1 5 _ ?_
        refine bn_t (xb1 ⟨h2, Int32.not_lt.mpr h3⟩) ?_
        exact kk
      by_cases hk2 : su (pk P k) w = true
      · refine bn_t (xb1 hk2) ?_
        have mgo : ∀ {A : Nat → Nat}, ((w = 1 ∧ A = po P) ∨ (¬ w = 1 ∧ A = pu P)) → ∀ (Q : xQ), (∀ u : Value, Ev m_M_mark 109 [.ref 67, .int (nI k), .int (nI w), .int (nI (cnt (sil P A k) (pc P))), .int (nI (pc P)), u] [] x_g σ τ Q) → Ev m_M_mark 0 (x_loc [.ref 67, .int (nI k), .int (nI w)] m_M_mark.2.2.1) [] x_g σ τ Q := by
          intro A hA Q kk
          refine mhead σ hM Q ?_
          refine ev_go 100 [39] ?_
          refine e_M_isA σ τ hM hV hk hw (by omega) _ ?_
          refine bn_t (xb1 hk2) ?_
          exact e_M_mark_loop σ τ hM hV hk hw (q := 0) hA kk _
        rcases k15 hw hw0 with rfl | rfl | rfl | rfl | rfl
        · refine br_t (by decide) ?_
          refine e_P_silentAt σ τ hC hV rfl hC.o hV.o7 (by omega) _ ?_
          refine ⟨rfl, ?_⟩
          refine mgo (Or.inl ⟨rfl, rfl⟩) _ (fun u => ?_)
          refine ev_go 100 [] ?_
          refine br_f (by decide) ?_
          refine br_f (by decide) ?_
          refine br_f (by decide) ?_
          exact ⟨rfl, rfl, ⟨_, rfl⟩, hR⟩
        · refine br_f (by decide) ?_
          refine br_t (by decide) ?_
          refine e_P_silentAt σ τ hC hV rfl hC.u hV.u7 (by omega) _ ?_
          refine ⟨rfl, ?_⟩
          refine mgo (Or.inr ⟨by decide, rfl⟩) _ (fun u => ?_)
          refine ev_go 100 [] ?_
          refine br_f (by decide) ?_
          refine br_f (by decide) ?_
          refine br_f (by decide) ?_
          exact ⟨rfl, rfl, ⟨_, rfl⟩, hR⟩
        · refine br_f (by decide) ?_
          refine br_f (by decide) ?_
          refine br_t (by decide) ?_
          refine e_P_tracksCrossed σ τ hC hV (by omega) _ ?_
          refine e_J_bitCount σ τ (bs7 _ h7) _ ?_
          refine ⟨rfl, ?_⟩
          refine mgo (Or.inr ⟨by decide, rfl⟩) _ (fun u => ?_)
          refine ev_go 100 [] ?_
          refine br_t (by decide) ?_
          refine e_M_beside σ τ hM hV (by omega) (b := true) (Or.inl ⟨rfl, rfl⟩) _ ?_
          refine e_M_bits σ τ (b31 h7) _ ?_
          exact ⟨rfl, rfl, ⟨_, rfl⟩, hR⟩
        · refine br_f (by decide) ?_
          refine br_f (by decide) ?_
          refine br_f (by decide) ?_
          refine br_t (by decide) ?_
          refine e_P_haresUnder σ τ hC hV (by omega) _ ?_
          refine ⟨rfl, ?_⟩
          refine mgo (Or.inr ⟨by decide, rfl⟩) _ (fun u => ?_)
          refine ev_go 100 [] ?_
          refine br_f (by decide) ?_
          refine br_t (by decide) ?_
          refine e_M_beside σ τ hM hV (by omega) (b := false) (Or.inr ⟨rfl, rfl⟩) _ ?_
          refine e_M_allOf σ τ hM hV (w := 2) (by decide) (by decide) _ ?_
          refine e_M_bitsE σ τ (s := bs (fun j => op (po P) (pu P) k (pc P) j && knd P 2 j) (pn P)) ?_ (b31 h7) _ ?_
          · rw [q_and, bs_and]
            congr 1
            refine bs_ext (fun j _ => ?_)
            simp
          rw [pp_bs _ (by omega)]
          exact ⟨rfl, rfl, ⟨_, rfl⟩, hR⟩
        · refine br_f (by decide) ?_
          refine br_f (by decide) ?_
          refine br_f (by decide) ?_
          refine br_f (by decide) ?_
          refine e_P_ofKind σ τ hC hV (w := 2) (by decide) _ ?_
          refine ⟨rfl, ?_⟩
          refine mgo (Or.inr ⟨by decide, rfl⟩) _ (fun u => ?_)
          refine ev_go 100 [] ?_
          refine br_f (by decide) ?_
          refine br_f (by decide) ?_
          refine br_t (by decide) ?_
          refine e_M_allOf σ τ hM hV (w := 2) (by decide) (by decide) _ ?_
          refine e_M_bits σ τ (b31 h7) _ ?_
          rw [pp_bs _ (by omega)]
          exact ⟨rfl, rfl, ⟨_, rfl⟩, hR⟩
      · refine bn_f (xb0 hk2) ?_
        refine e_S_refuse σ τ 3 in3 _ ?_
        refine ⟨rfl, ?_⟩
        have hM1 := hM.ag (Ag.cref (f := 3)) (by decide)
        refine mhead _ hM1 _ ?_
        refine ev_go 100 [] ?_
        refine e_M_isA _ τ hM1 hV hk hw (by omega) _ ?_
        refine bn_f (xb0 hk2) ?_
        refine e_M_finds _ τ 3 in3 _ ?_
        exact ⟨rfl, rfl, ⟨_, rfl⟩, hR.find (f := 3) (by decide)⟩
    · exact ⟨rfl, bad (fun q => q.2.2 (Int32.not_le.mp h3))⟩
  · refine br_t (xb0 h1) ?_
    exact ⟨rfl, bad (fun q => h1 q.1)⟩
