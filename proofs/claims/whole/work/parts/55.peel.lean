/-! RINGS AND LAYERS -/
theorem wr_s {e : Nat → Nat → Bool} {m i j : Nat} (h : wr e m i j = true) : wr e (m + 1) i j = true := by
  simp [wr, h]
theorem wr_up {e : Nat → Nat → Bool} {m i j : Nat} (h : wr e m i j = true) : ∀ k, wr e (m + k) i j = true
  | 0 => h
  | k + 1 => wr_s (wr_up h k)
theorem wr_le {e : Nat → Nat → Bool} {m m' i j : Nat} (h : wr e m i j = true) (hm : m ≤ m') : wr e m' i j = true := by
  have := wr_up h (m' - m)
  rwa [show m + (m' - m) = m' by omega] at this
theorem wr_base {e : Nat → Nat → Bool} {m i j : Nat} (h : e j i = true) : wr e m i j = true := wr_le (m := 0) h (Nat.zero_le m)
theorem wr_trans {e : Nat → Nat → Bool} : ∀ {m k i j : Nat}, k < m → wr e m i k = true → wr e m k j = true → wr e m i j = true
  | 0, k, _, _, h, _, _ => absurd h (Nat.not_lt_zero k)
  | m + 1, k, i, j, h, h1, h2 => by
    have IH := @wr_trans e m
    by_cases hk : k = m
    · subst hk
      rw [wr_c] at h1
      rw [wr_r] at h2
      simp [wr, h1, h2]
    · have hk' : k < m := by omega
      simp only [wr, Bool.or_eq_true, Bool.and_eq_true] at h1 h2 ⊢
      rcases h1 with h1 | ⟨h1, h1'⟩ <;> rcases h2 with h2 | ⟨h2, h2'⟩
      · exact Or.inl (IH hk' h1 h2)
      · exact Or.inr ⟨IH hk' h1 h2, h2'⟩
      · exact Or.inr ⟨h1, IH hk' h1' h2⟩
      · exact Or.inr ⟨h1, h2'⟩
/-- the last step to j -/
theorem wr_last {e : Nat → Nat → Bool} {n : Nat} : ∀ {m i j : Nat}, m ≤ n → wr e m i j = true → ∃ p, e j p = true ∧ (p = i ∨ wr e n i p = true)
  | 0, i, j, _, h => ⟨i, h, Or.inl rfl⟩
  | m + 1, i, j, hm, h => by
    simp only [wr, Bool.or_eq_true, Bool.and_eq_true] at h
    rcases h with h | ⟨h1, h2⟩
    · exact wr_last (by omega) h
    · obtain ⟨p, a, b⟩ := wr_last (n := n) (m := m) (by omega) h2
      refine ⟨p, a, Or.inr ?_⟩
      rcases b with rfl | b
      · exact wr_le h1 (by omega)
      · exact wr_trans (by omega) (wr_le h1 (by omega)) b
theorem wr_min {e R : Nat → Nat → Bool} {n : Nat} (hb : ∀ i j, e j i = true → R i j = true) (ht : ∀ i k j, k < n → R i k = true → R k j = true → R i j = true) : ∀ {m i j : Nat}, m ≤ n → wr e m i j = true → R i j = true
  | 0, i, j, _, h => hb i j h
  | m + 1, i, j, hm, h => by
    simp only [wr, Bool.or_eq_true, Bool.and_eq_true] at h
    rcases h with h | ⟨h1, h2⟩
    · exact wr_min hb ht (by omega) h
    · exact ht i m j (by omega) (wr_min hb ht (by omega) h1) (wr_min hb ht (by omega) h2)
def eIn (e : Nat → Nat → Bool) (n : Nat) : Prop := ∀ j i, e j i = true → i < n ∧ j < n
theorem wr_lt {e : Nat → Nat → Bool} {n : Nat} (he : eIn e n) : ∀ {m i j : Nat}, wr e m i j = true → i < n ∧ j < n
  | 0, i, j, h => he j i h
  | m + 1, i, j, h => by
    simp only [wr, Bool.or_eq_true, Bool.and_eq_true] at h
    rcases h with h | ⟨h1, h2⟩
    · exact wr_lt he h
    · exact ⟨(wr_lt he h1).1, (wr_lt he h2).2⟩
theorem cnt_mono {f g : Nat → Bool} : ∀ {n : Nat}, (∀ i, i < n → f i = true → g i = true) → cnt f n ≤ cnt g n
  | 0, _ => Nat.le_refl 0
  | n + 1, h => by
    have := cnt_mono (n := n) (fun i hi => h i (by omega))
    simp only [cnt]
    by_cases hf : f n = true
    · rw [if_pos hf, if_pos (h n (by omega) hf)]
      omega
    · rw [if_neg hf]
      omega
theorem cnt_lt {f g : Nat → Bool} : ∀ {n : Nat}, (∀ i, i < n → f i = true → g i = true) → (∃ j, j < n ∧ g j = true ∧ f j = false) → cnt f n < cnt g n
  | 0, _, ⟨j, hj, _⟩ => absurd hj (Nat.not_lt_zero j)
  | n + 1, h, ⟨j, hj, h1, h2⟩ => by
    have hm := cnt_mono (n := n) (fun i hi => h i (by omega))
    simp only [cnt]
    by_cases e : j = n
    · subst e
      simp [h1, h2]
      omega
    · have := cnt_lt (n := n) (fun i hi => h i (by omega)) ⟨j, by omega, h1, h2⟩
      by_cases hf : f n = true
      · rw [if_pos hf, if_pos (h n (by omega) hf)]
        omega
      · rw [if_neg hf]
        omega
theorem least {p : Nat → Prop} : ∀ t, p t → ∃ u, u ≤ t ∧ p u ∧ ∀ v, v < u → ¬ p v := by
  intro t
  induction t using Nat.strongRecOn with
  | ind t ih =>
    intro ht
    by_cases h : ∃ v, v < t ∧ p v
    · obtain ⟨v, hv, hp⟩ := h
      obtain ⟨u, a, b⟩ := ih v hv hp
      exact ⟨u, by omega, b⟩
    · exact ⟨t, Nat.le_refl t, ht, fun v hv hp => h ⟨v, hv, hp⟩⟩
theorem anb_no {f : Nat → Bool} {n : Nat} : anb f n = false ↔ ∀ i, i < n → f i = false := by
  constructor
  · intro h i hi
    cases hf : f i
    · rfl
    · rw [anb_iff.mpr ⟨i, hi, hf⟩] at h
      exact absurd h (by decide)
  · intro h
    cases hf : anb f n
    · rfl
    · obtain ⟨i, hi, h2⟩ := anb_iff.mp hf
      rw [h i hi] at h2
      exact absurd h2 (by decide)
theorem bs_anb {f : Nat → Bool} {n : Nat} : bs f n = 0 ↔ anb f n = false := bs_eq0.trans anb_no.symm
def fm (e : Nat → Nat → Bool) (n : Nat) (s : Nat → Bool) : Nat → Bool := fun i => s i && !(anb (fun k => e i k && s k) n)
def pl (e : Nat → Nat → Bool) (n : Nat) (s : Nat → Bool) : Nat → Nat → Bool
  | 0 => s
  | t + 1 => fun i => pl e n s t i && !(fm e n (pl e n s t) i)
/-- without a ring, some of each set has none of it ahead -/
theorem mini {e : Nat → Nat → Bool} {n : Nat} (hr : rg e n = false) {u : Nat → Bool} : ∀ (c x : Nat), cnt (fun k => wr e n k x) n ≤ c → x < n → u x = true → ∃ i, i < n ∧ u i = true ∧ ∀ k, k < n → u k = true → e i k = false := by
  have hirr : ∀ i, i < n → wr e n i i = false := anb_no.mp hr
  intro c
  induction c with
  | zero =>
    intro x hc hx hu
    refine ⟨x, hx, hu, fun k hk huk => ?_⟩
    cases he : e x k
    · rfl
    · have : cnt (fun _ => false) n < cnt (fun k => wr e n k x) n := cnt_lt (fun i _ h => absurd h (by decide)) ⟨k, hk, wr_base he, rfl⟩
      omega
  | succ c ih =>
    intro x hc hx hu
    by_cases h : ∃ k, k < n ∧ u k = true ∧ e x k = true
    · obtain ⟨k, hk, huk, he⟩ := h
      refine ih k ?_ hk huk
      have : cnt (fun y => wr e n y k) n < cnt (fun y => wr e n y x) n := cnt_lt (fun y _ hy => wr_trans hk hy (wr_base he)) ⟨k, hk, wr_base he, hirr k hk⟩
      omega
    · refine ⟨x, hx, hu, fun k hk huk => ?_⟩
      cases he : e x k
      · rfl
      · exact absurd ⟨k, hk, huk, he⟩ h
theorem pl_empty {e : Nat → Nat → Bool} {n : Nat} (hr : rg e n = false) (s : Nat → Bool) : ∀ t, (∃ t', t' ≤ t ∧ bs (pl e n s t') n = 0) ∨ cnt (pl e n s t) n + t ≤ n
  | 0 => Or.inr (cnt_le _ n)
  | t + 1 => by
    rcases pl_empty hr s t with ⟨t', a, b⟩ | h
    · exact Or.inl ⟨t', by omega, b⟩
    · by_cases h0 : bs (pl e n s t) n = 0
      · exact Or.inl ⟨t, by omega, h0⟩
      · right
        have : ∃ x, x < n ∧ pl e n s t x = true := by
          cases ha : anb (pl e n s t) n
          · exact absurd (bs_anb.mpr ha) h0
          · exact anb_iff.mp ha
        obtain ⟨x, hx, hux⟩ := this
        obtain ⟨i, hi, hui, hmin⟩ := mini hr _ x (Nat.le_refl _) hx hux
        have hf : fm e n (pl e n s t) i = true := by
          simp only [fm, Bool.and_eq_true, Bool.not_eq_true']
          refine ⟨hui, anb_no.mpr (fun k hk => ?_)⟩
          cases hk2 : pl e n s t k
          · simp
          · simp [hmin k hk hk2]
        have : cnt (pl e n s (t + 1)) n < cnt (pl e n s t) n := cnt_lt (fun k _ hk => by simp only [pl, Bool.and_eq_true] at hk; exact hk.1) ⟨i, hi, hui, by simp [pl, hf]⟩
        omega
/-- all come off, without a ring -/
theorem pl_all {e : Nat → Nat → Bool} {n : Nat} (hr : rg e n = false) (s : Nat → Bool) : ∃ t, t ≤ n ∧ bs (pl e n s t) n = 0 ∧ ∀ t', t' < t → ¬ bs (pl e n s t') n = 0 := by
  have : ∃ t', t' ≤ n ∧ bs (pl e n s t') n = 0 := by
    rcases pl_empty hr s n with h | h
    · exact h
    · refine ⟨n, Nat.le_refl n, bs_eq0.mpr (fun i hi => ?_)⟩
      cases hp : pl e n s n i
      · rfl
      · have : cnt (fun _ => false) n < cnt (pl e n s n) n := cnt_lt (fun i _ h => absurd h (by decide)) ⟨i, hi, hp, rfl⟩
        omega
  obtain ⟨t', a, b⟩ := this
  obtain ⟨u, c, d, f⟩ := least (p := fun t => bs (pl e n s t) n = 0) t' b
  exact ⟨u, by omega, d, f⟩
/-- a ring stays -/
theorem pl_ring {e : Nat → Nat → Bool} {n : Nat} (he : eIn e n) {s : Nat → Bool} (hs : ∀ j i, e j i = true → s j = true) (hr : rg e n = true) : ∀ t, ¬ bs (pl e n s t) n = 0 := by
  have key : ∀ t i, i < n → wr e n i i = true → pl e n s t i = true := by
    intro t
    induction t with
    | zero =>
      intro i hi h
      obtain ⟨p, a, _⟩ := wr_last (Nat.le_refl n) h
      exact hs i p a
    | succ t ih =>
      intro i hi h
      obtain ⟨p, a, b⟩ := wr_last (Nat.le_refl n) h
      have hp := (he i p a).1
      have hpp : wr e n p p = true := by
        rcases b with rfl | b
        · exact h
        · exact wr_trans hi (wr_base a) b
      simp only [pl, fm, Bool.and_eq_true, Bool.not_eq_true']
      refine ⟨ih i hi h, ?_⟩
      rw [anb_iff.mpr ⟨p, hp, by simp [a, ih p hp hpp]⟩]
      simp
  intro t h0
  obtain ⟨i, hi, h⟩ := anb_iff.mp hr
  have := bs_eq0.mp h0 i hi
  rw [key t i hi h] at this
  exact absurd this (by decide)
theorem e_G_surelyAheadOf (σ : xS) (τ : xL) {n : Nat} (h7 : n ≤ 7) (hG : GH σ n) {a : Nat → Nat → Bool} (hA : Ar σ 33 n (fun i => bs (a i) n)) {j : Nat} (hj : j < n) : Rn m_G_surelyAheadOf [.ref 31, .int (nI j)] σ τ (some (.int (nI (bs (fun i => a i j) n)))) σ τ := by
  intro Q h
  refine ev_go 100 [4] ?_
  refine ev_iter (M := m_G_surelyAheadOf) (pc := 4) (st := []) (g := x_g) (Q := Q) n (fun i => ([.ref 31, .int (nI j), .int (nI (bs (fun i => a i j) i)), .int (nI i)], σ, τ)) (fun i hi kk => ?_) ?_
  · dsimp only at kk ⊢
    refine ev_go 100 [4] ?_
    refine br_f (by rw [hG.1]; exact nI_ge hi (by omega)) ?_
    refine ⟨7, rfl, q_in (by omega) (by decide), ?_⟩
    rw [hA.get hi (by omega)]
    refine e_S_has σ τ (Nat.lt_trans (bs7 _ h7) (by decide)) (by omega) _ ?_
    have eb : (bs (a i) n).testBit j = a i j := by rw [bs_bit]; simp [hj]
    by_cases t : (bs (a i) n).testBit j = true
    · refine br_f (xb1 t) ?_
      rw [eb] at t
      show Ev m_G_surelyAheadOf 4 [.ref 31, .int (nI j), .int (nI (bs (fun i => a i j) i) ||| ((1 : Int32) <<< (nI i &&& 31))), .int (nI i + 1)] [] x_g σ τ Q
      rw [nI_1, q_shl1 (by omega), q_or, show bs (fun i => a i j) i ||| 2 ^ i = bs (fun i => a i j) (i + 1) by simp [bs, t]]
      exact kk
    · refine br_t (xb0 t) ?_
      rw [eb] at t
      show Ev m_G_surelyAheadOf 4 [.ref 31, .int (nI j), .int (nI (bs (fun i => a i j) i)), .int (nI i + 1)] [] x_g σ τ Q
      rw [nI_1, show bs (fun i => a i j) i = bs (fun i => a i j) (i + 1) by simp [bs, t]]
      exact kk
  · dsimp only
    refine ev_go 100 [4] ?_
    refine br_t (by rw [hG.1]; exact nI_le (Nat.le_refl _) (by omega)) ?_
    exact h
theorem e_G_foremostOf (σ : xS) (τ : xL) {n : Nat} (h7 : n ≤ 7) (hG : GH σ n) {e : Nat → Nat → Bool} (hB : Ar σ 32 7 (fun j => bs (e j) n)) (s : Nat → Bool) : Rn m_G_foremostOf [.ref 31, .int (nI (bs s n))] σ τ (some (.int (nI (bs (fm e n s) n)))) σ τ := by
  intro Q h
  refine ev_go 100 [4] ?_
  refine ev_iter (M := m_G_foremostOf) (pc := 4) (st := []) (g := x_g) (Q := Q) n (fun i => ([.ref 31, .int (nI (bs s n)), .int (nI (bs (fm e n s) i)), .int (nI i)], σ, τ)) (fun i hi kk => ?_) ?_
  · dsimp only at kk ⊢
    refine ev_go 100 [4] ?_
    refine br_f (by rw [hG.1]; exact nI_ge hi (by omega)) ?_
    refine e_S_has σ τ (Nat.lt_trans (bs7 _ h7) (by decide)) (by omega) _ ?_
    have eb : (bs s n).testBit i = s i := by rw [bs_bit]; simp [hi]
    by_cases t : (bs s n).testBit i = true
    · refine br_f (xb1 t) ?_
      rw [eb] at t
      refine ⟨7, rfl, q_in (by omega) (by decide), ?_⟩
      rw [hB.get (by omega) (by omega)]
      have ea : nI (bs (e i) n) &&& nI (bs s n) = nI (bs (fun k => e i k && s k) n) := by rw [q_and, bs_and]
      by_cases t2 : anb (fun k => e i k && s k) n = true
      · refine bn_t (by rw [ea]; exact fun z => by have := (nI_eq (b := 0) (Nat.lt_trans (bs7 _ h7) (by decide)) (by decide)).mp z; rw [bs_anb, t2] at this; exact absurd this (by decide)) ?_
        show Ev m_G_foremostOf 4 [.ref 31, .int (nI (bs s n)), .int (nI (bs (fm e n s) i)), .int (nI i + 1)] [] x_g σ τ Q
        rw [nI_1, show bs (fm e n s) i = bs (fm e n s) (i + 1) by simp [bs, fm, t2]]
        exact kk
      · refine bn_f (by rw [ea, bs_anb.mpr (by simpa using t2)]; rfl) ?_
        have hf : fm e n s i = true := by simp only [fm, t]; simpa using t2
        show Ev m_G_foremostOf 4 [.ref 31, .int (nI (bs s n)), .int (nI (bs (fm e n s) i) ||| ((1 : Int32) <<< (nI i &&& 31))), .int (nI i + 1)] [] x_g σ τ Q
        rw [nI_1, q_shl1 (by omega), q_or, show bs (fm e n s) i ||| 2 ^ i = bs (fm e n s) (i + 1) by simp [bs, hf]]
        exact kk
    · refine br_t (xb0 t) ?_
      rw [eb] at t
      show Ev m_G_foremostOf 4 [.ref 31, .int (nI (bs s n)), .int (nI (bs (fm e n s) i)), .int (nI i + 1)] [] x_g σ τ Q
      rw [nI_1, show bs (fm e n s) i = bs (fm e n s) (i + 1) by simp [bs, fm, t]]
      exact kk
  · dsimp only
    refine ev_go 100 [4] ?_
    refine br_t (by rw [hG.1]; exact nI_le (Nat.le_refl _) (by omega)) ?_
    exact h
theorem e_G_layersOf_step (σ : xS) (τ : xL) {n : Nat} (h7 : n ≤ 7) (hG : GH σ n) {e : Nat → Nat → Bool} (hB : Ar σ 32 7 (fun j => bs (e j) n)) (s : Nat → Bool) {Q : xQ} {i : Nat} (hi : i ≤ 7) (h0 : ¬ bs (pl e n s i) n = 0) (kk : Ev m_G_layersOf 4 [.ref 31, .int (nI (bs s n)), .int (nI (bs (pl e n s (i + 1)) n)), .int (nI (i + 1))] [] x_g σ τ Q) : Ev m_G_layersOf 4 [.ref 31, .int (nI (bs s n)), .int (nI (bs (pl e n s i) n)), .int (nI i)] [] x_g σ τ Q := by
  refine ev_go 100 [4] ?_
  refine br_f (nI_ne0 (Nat.pos_of_ne_zero h0) (Nat.lt_trans (bs7 _ h7) (by decide))) ?_
  refine br_f (fun z => Nat.not_lt.mpr hi ((q_ltI (a := 7) (by decide) (by omega)).mp z)) ?_
  refine e_G_foremostOf σ τ h7 hG hB (pl e n s i) _ ?_
  show Ev m_G_layersOf 4 [.ref 31, .int (nI (bs s n)), .int (nI (bs (pl e n s i) n) &&& (nI (bs (fm e n (pl e n s i)) n) ^^^ (-1))), .int (nI i + 1)] [] x_g σ τ Q
  rw [nI_1, q_nd, bs_nd]
  exact kk
theorem e_G_layersOf_ok (σ : xS) (τ : xL) {n : Nat} (h7 : n ≤ 7) (hG : GH σ n) {e : Nat → Nat → Bool} (hB : Ar σ 32 7 (fun j => bs (e j) n)) (s : Nat → Bool) {v : Int32} (hv : v = nI (bs s n)) {t : Nat} (ht : t ≤ 8) (h0 : bs (pl e n s t) n = 0) (h1 : ∀ t', t' < t → ¬ bs (pl e n s t') n = 0) : Rn m_G_layersOf [.ref 31, .int v] σ τ (some (.int (nI t))) σ τ := by
  intro Q h
  subst hv
  refine ev_go 100 [4] ?_
  refine ev_iter (M := m_G_layersOf) (pc := 4) (st := []) (g := x_g) (Q := Q) t (fun i => ([.ref 31, .int (nI (bs s n)), .int (nI (bs (pl e n s i) n)), .int (nI i)], σ, τ)) (fun i hi kk => e_G_layersOf_step σ τ h7 hG hB s (by omega) (h1 i hi) kk) ?_
  dsimp only
  rw [h0]
  refine ev_go 100 [] ?_
  refine br_t rfl ?_
  refine bn_f rfl ?_
  exact h
theorem e_G_layersOf_no (σ : xS) (τ : xL) {n : Nat} (h7 : n ≤ 7) (hG : GH σ n) {e : Nat → Nat → Bool} (hB : Ar σ 32 7 (fun j => bs (e j) n)) (s : Nat → Bool) {v : Int32} (hv : v = nI (bs s n)) (h1 : ∀ t', ¬ bs (pl e n s t') n = 0) : Rn m_G_layersOf [.ref 31, .int v] σ τ (some (.int (-1))) σ τ := by
  intro Q h
  subst hv
  refine ev_go 100 [4] ?_
  refine ev_iter (M := m_G_layersOf) (pc := 4) (st := []) (g := x_g) (Q := Q) 8 (fun i => ([.ref 31, .int (nI (bs s n)), .int (nI (bs (pl e n s i) n)), .int (nI i)], σ, τ)) (fun i hi kk => e_G_layersOf_step σ τ h7 hG hB s (by omega) (h1 i) kk) ?_
  dsimp only
  have hne := nI_ne0 (Nat.pos_of_ne_zero (h1 8)) (Nat.lt_trans (bs7 (pl e n s 8) h7) (by decide))
  refine ev_go 100 [] ?_
  refine br_f hne ?_
  refine br_t (by decide) ?_
  refine bn_t hne ?_
  exact h
/-- the edges of a pass -/
abbrev edP (P : xP) : Nat → Nat → Bool := ed P (tl P) (fun _ => true) (pw P == 1)
theorem edP_in {P : xP} (hV : PV P) : eIn (edP P) (pn P) := fun _ _ h => ⟨(ed_lt hV h).1, (ed_lt hV h).2.1⟩
/-- the graph's edges are told -/
def Gr (σ : xS) (n : Nat) (e : Nat → Nat → Bool) : Prop := GH σ n ∧ Ar σ 32 7 (fun j => bs (e j) n)
def Gc (σ : xS) (n : Nat) (e : Nat → Nat → Bool) : Prop := Gr σ n e ∧ Ar σ 33 n (fun i => bs (wr e n i) n)
theorem Gr.ag {σ σ' : xS} {n : Nat} {e : Nat → Nat → Bool} {L : List Nat} (h : Gr σ n e) (hA : Ag L σ σ') (h1 : 31 ∉ L) (h2 : 32 ∉ L) : Gr σ' n e := ⟨h.1.ag hA h1, h.2.ag hA h2⟩
theorem Gc.ag {σ σ' : xS} {n : Nat} {e : Nat → Nat → Bool} {L : List Nat} (h : Gc σ n e) (hA : Ag L σ σ') (h1 : 31 ∉ L) (h2 : 32 ∉ L) (h3 : 33 ∉ L) : Gc σ' n e := ⟨h.1.ag hA h1 h2, h.2.ag hA h3⟩
theorem e_S_closesToRing (σ : xS) (τ : xL) {P : xP} (hP : PC σ 17 P) (hV : PV P) : Rs m_S_closesToRing [.ref 0] σ τ (some (.int (x_b (rg (edP P) (pn P) = true)))) (fun σ' => Ag [31, 32, 33] σ σ' ∧ Gc σ' (pn P) (edP P)) := by
  intro Q h
  refine ev_go 100 [] ?_
  refine e_G_takeAll σ τ hP hV _ (fun σ1 h1 => ?_)
  refine e_G_close σ1 τ hV.1 h1.2.1 h1.2.2 _ (fun σ2 h2 => ?_)
  have hG := h1.2.1.ag h2.1 (by decide)
  have hB := h1.2.2.ag h2.1 (by decide)
  have fin := h σ2 ⟨(h1.1.mono (by decide)).trans (h2.1.mono (by decide)), ⟨hG, hB⟩, h2.2⟩
  have hv : σ2 31 1 = nI (bs (fun _ => true) (pn P)) := by rw [hG.2, bs_all]
  cases hr : rg (edP P) (pn P)
  · obtain ⟨t, a, b, c⟩ := pl_all hr (fun _ => true)
    refine e_G_layersOf_ok σ2 τ hV.1 hG hB (fun _ => true) hv (by have := hV.1; omega) b c _ ?_
    refine br_t (nI_le (a := 0) (Nat.zero_le _) (by have := hV.1; omega)) ?_
    rw [hr] at fin
    exact ⟨Or.inl rfl, fin⟩
  · refine e_G_layersOf_no σ2 τ hV.1 hG hB (fun _ => true) hv (pl_ring (edP_in hV) (fun _ _ _ => rfl) hr) _ ?_
    refine br_f (by decide) ?_
    rw [hr] at fin
    exact ⟨Or.inr rfl, fin⟩
