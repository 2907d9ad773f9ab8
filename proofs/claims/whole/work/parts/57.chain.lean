/-! CHAINS -/
theorem cnt_all {f : Nat → Bool} : ∀ {n : Nat}, (∀ i, i < n → f i = true) → cnt f n = n
  | 0, _ => rfl
  | n + 1, h => by
    simp only [cnt]
    rw [cnt_all (n := n) (fun i hi => h i (by omega)), if_pos (h n (by omega))]
theorem dec_le {f : Nat → Bool} (hd : ∀ t, f (t + 1) = true → f t = true) : ∀ {t u : Nat}, u ≤ t → f t = true → f u = true := by
  intro t
  induction t with
  | zero => intro u hu h; rwa [show u = 0 by omega]
  | succ t ih =>
    intro u hu h
    by_cases e : u = t + 1
    · rwa [e]
    · exact ih (by omega) (hd t h)
theorem dec_cnt {f : Nat → Bool} (hd : ∀ t, f (t + 1) = true → f t = true) : ∀ N t, t < N → (f t = true ↔ t < cnt f N)
  | 0, t, h => absurd h (Nat.not_lt_zero t)
  | N + 1, t, h => by
    simp only [cnt]
    by_cases hN : f N = true
    · rw [cnt_all (n := N) (fun i hi => dec_le hd (by omega) hN), if_pos hN]
      exact ⟨fun _ => h, fun _ => dec_le hd (by omega) hN⟩
    · rw [if_neg hN]
      by_cases e : t = N
      · subst e
        have := cnt_le f t
        constructor
        · exact fun z => absurd z hN
        · intro z
          omega
      · have := dec_cnt hd N t (by omega)
        rwa [Nat.add_zero]
/-- in how many layers a track still is -/
def ly (e : Nat → Nat → Bool) (n : Nat) (s : Nat → Bool) (x : Nat) : Nat := cnt (fun t => pl e n s t x) 9
theorem ly_iff {e : Nat → Nat → Bool} {n : Nat} {s : Nat → Bool} {x t : Nat} (ht : t < 9) : pl e n s t x = true ↔ t < ly e n s x := dec_cnt (f := fun t => pl e n s t x) (fun t h => by simp only [pl, Bool.and_eq_true] at h; exact h.1) 9 t ht
theorem pl_sub {e : Nat → Nat → Bool} {n : Nat} {s : Nat → Bool} {x : Nat} : ∀ {t : Nat}, pl e n s t x = true → s x = true
  | 0, h => h
  | t + 1, h => by
    simp only [pl, Bool.and_eq_true] at h
    exact pl_sub h.1
section LY
variable {e : Nat → Nat → Bool} {n : Nat} {s : Nat → Bool} (h7 : n ≤ 7) (hr : rg e n = false)
theorem ly_le (h7 : n ≤ 7) (hr : rg e n = false) {t : Nat} (ht : t ≤ 8) (h0 : bs (pl e n s t) n = 0) {x : Nat} (hx : x < n) : ly e n s x ≤ t := by
  have := bs_eq0.mp h0 x hx
  have h2 := @ly_iff e n s x t (by omega)
  rw [this] at h2
  simp at h2
  omega
theorem ly_le7 (h7 : n ≤ 7) (hr : rg e n = false) {x : Nat} (hx : x < n) : ly e n s x ≤ n := by
  obtain ⟨t, a, b, _⟩ := pl_all hr s
  have := ly_le h7 hr (s := s) (by omega) b hx
  omega
theorem ly_pos {x : Nat} (hs : s x = true) : 1 ≤ ly e n s x := (@ly_iff e n s x 0 (by decide)).mp hs
theorem ly_dir (h7 : n ≤ 7) (hr : rg e n = false) {x k : Nat} (hx : x < n) (hk : k < n) (hs : s x = true) (he : e x k = true) : ly e n s k < ly e n s x := by
  have h1 := ly_pos (e := e) (n := n) hs
  have h8 := ly_le7 (s := s) h7 hr hx
  have a := (@ly_iff e n s x (ly e n s x - 1) (by omega)).mpr (by omega)
  have b : ¬ pl e n s (ly e n s x - 1 + 1) x = true := by
    rw [ly_iff (by omega)]
    omega
  simp only [pl, a, Bool.true_and, Bool.not_eq_true', Bool.not_eq_false, fm] at b
  have c := anb_no.mp (by simpa using b) k hk
  simp only [he, Bool.true_and] at c
  have d := @ly_iff e n s k (ly e n s x - 1) (by omega)
  rw [c] at d
  simp at d
  omega
theorem ly_pred (h7 : n ≤ 7) (hr : rg e n = false) {x : Nat} (hx : x < n) (h1 : 1 < ly e n s x) : ∃ k, k < n ∧ e x k = true ∧ s k = true ∧ ly e n s k + 1 = ly e n s x := by
  have h8 := ly_le7 (s := s) h7 hr hx
  obtain ⟨t, ht⟩ : ∃ t, ly e n s x = t + 2 := ⟨ly e n s x - 2, by omega⟩
  have a := (@ly_iff e n s x (t + 1) (by omega)).mpr (by omega)
  have hs : s x = true := pl_sub a
  simp only [pl, fm, Bool.and_eq_true, Bool.not_eq_true'] at a
  have b : anb (fun k => e x k && pl e n s t k) n = true := by
    have := a.2
    rw [a.1] at this
    simpa using this
  obtain ⟨k, hk, hb⟩ := anb_iff.mp b
  simp only [Bool.and_eq_true] at hb
  have c := (@ly_iff e n s k t (by omega)).mp hb.2
  have d := ly_dir h7 hr hx hk hs hb.1
  exact ⟨k, hk, hb.1, pl_sub hb.2, by omega⟩
theorem ly_wr (h7 : n ≤ 7) (hr : rg e n = false) (he : eIn e n) (hup : ∀ j i, e j i = true → s i = true → s j = true) {i j : Nat} (h : wr e n i j = true) (hi : s i = true) : s j = true ∧ ly e n s i < ly e n s j := by
  have := wr_min (e := e) (n := n) (R := fun i j => decide (s i = true → s j = true ∧ ly e n s i < ly e n s j)) (fun i j hij => ?_) (fun i k j _ h1 h2 => ?_) (Nat.le_refl n) h
  · simp only [decide_eq_true_eq] at this
    exact this hi
  · simp only [decide_eq_true_eq]
    intro hs
    exact ⟨hup j i hij hs, ly_dir h7 hr (he j i hij).2 (he j i hij).1 (hup j i hij hs) hij⟩
  · simp only [decide_eq_true_eq] at h1 h2 ⊢
    intro hs
    have a := h1 hs
    have b := h2 a.1
    exact ⟨b.1, by omega⟩
theorem ly_top (h7 : n ≤ 7) {t : Nat} (ht : t ≤ 8) (h1 : ∀ t', t' < t → ¬ bs (pl e n s t') n = 0) (h0 : 0 < t) : ∃ x, x < n ∧ t ≤ ly e n s x := by
  have a : anb (pl e n s (t - 1)) n = true := by
    cases hq : anb (pl e n s (t - 1)) n
    · exact absurd (bs_anb.mpr hq) (h1 (t - 1) (by omega))
    · rfl
  obtain ⟨x, hx, hp⟩ := anb_iff.mp a
  have := (@ly_iff e n s x (t - 1) (by omega)).mp hp
  exact ⟨x, hx, by omega⟩
end LY
/-- turned round -/
def eT (e : Nat → Nat → Bool) : Nat → Nat → Bool := fun j i => e i j
theorem wr_T (e : Nat → Nat → Bool) : ∀ m i j, wr (eT e) m i j = wr e m j i
  | 0, i, j => rfl
  | m + 1, i, j => by
    simp only [wr]
    rw [wr_T e m, wr_T e m, wr_T e m, Bool.and_comm]
theorem rg_T (e : Nat → Nat → Bool) (n : Nat) : rg (eT e) n = rg e n := by
  unfold rg
  rw [show (fun i => wr (eT e) n i i) = fun i => wr e n i i from by funext i; exact wr_T e n i i]
/-- how long a chain that ends at x, that begins at x -/
def hD (e : Nat → Nat → Bool) (n : Nat) : Nat → Nat := ly e n (fun _ => true)
def hU (e : Nat → Nat → Bool) (n : Nat) : Nat → Nat := ly (eT e) n (fun _ => true)
theorem pl_dn {e : Nat → Nat → Bool} {n : Nat} {s : Nat → Bool} (hd : ∀ x k, e x k = true → s x = true → s k = true) : ∀ t x, x < n → pl e n s t x = (s x && pl e n (fun _ => true) t x)
  | 0, x, _ => by simp [pl]
  | t + 1, x, hx => by
    have ih : ∀ y, y < n → pl e n s t y = (s y && pl e n (fun _ => true) t y) := fun y hy => pl_dn hd t y hy
    simp only [pl, fm]
    rw [ih x hx]
    cases hs : s x
    · simp
    · cases hp : pl e n (fun _ => true) t x
      · simp
      · simp only [Bool.true_and]
        congr 2
        have : ∀ k, k < n → (e x k && pl e n s t k) = (e x k && pl e n (fun _ => true) t k) := by
          intro k hk
          cases he : e x k
          · rfl
          · rw [ih k hk, hd x k he hs]
            rfl
        have e2 : ∀ m, m ≤ n → anb (fun k => e x k && pl e n s t k) m = anb (fun k => e x k && pl e n (fun _ => true) t k) m := by
          intro m
          induction m with
          | zero => intro _; rfl
          | succ m ihm =>
            intro hm
            simp only [anb]
            rw [ihm (by omega), this m (by omega)]
        rw [e2 n (Nat.le_refl n)]
/-- the layers of one and those ahead of it -/
theorem lay_dn {e : Nat → Nat → Bool} {n : Nat} (h7 : n ≤ 7) (hr : rg e n = false) (he : eIn e n) {i : Nat} (hi : i < n) : bs (pl e n (fun x => wr e n x i || x == i) (hD e n i)) n = 0 ∧ ∀ t', t' < hD e n i → ¬ bs (pl e n (fun x => wr e n x i || x == i) t') n = 0 := by
  have hd : ∀ x k, e x k = true → (wr e n x i || x == i) = true → (wr e n k i || k == i) = true := by
    intro x k hxk hx
    simp only [Bool.or_eq_true, beq_iff_eq] at hx ⊢
    rcases hx with h | rfl
    · exact Or.inl (wr_trans (he x k hxk).2 (wr_base hxk) h)
    · exact Or.inl (wr_base hxk)
  have hl : hD e n i ≤ n := ly_le7 h7 hr hi
  constructor
  · apply bs_eq0.mpr
    intro x hx
    rw [pl_dn hd _ x hx]
    cases hs : (wr e n x i || x == i)
    · rfl
    · simp only [Bool.true_and]
      have : ly e n (fun _ => true) x ≤ hD e n i := by
        simp only [Bool.or_eq_true, beq_iff_eq] at hs
        rcases hs with h | rfl
        · exact Nat.le_of_lt (ly_wr (s := fun _ => true) h7 hr he (fun _ _ _ _ => rfl) h rfl).2
        · exact Nat.le_refl _
      cases hp : pl e n (fun _ => true) (hD e n i) x
      · rfl
      · have := (@ly_iff e n (fun _ => true) x (hD e n i) (by omega)).mp hp
        omega
  · intro t' ht' h0
    have := bs_eq0.mp h0 i hi
    rw [pl_dn hd _ i hi] at this
    simp only [beq_self_eq_true, Bool.or_true, Bool.true_and] at this
    have h2 := (@ly_iff e n (fun _ => true) i t' (by omega)).mpr ht'
    rw [this] at h2
    exact absurd h2 (by decide)
/-- the layers of one and those behind it -/
theorem lay_up {e : Nat → Nat → Bool} {n : Nat} (h7 : n ≤ 7) (hr : rg e n = false) (he : eIn e n) {i : Nat} (hi : i < n) : bs (pl e n (fun x => wr e n i x || x == i) (hU e n i)) n = 0 ∧ ∀ t', t' < hU e n i → ¬ bs (pl e n (fun x => wr e n i x || x == i) t') n = 0 := by
  have hirr : wr e n i i = false := anb_no.mp hr i hi
  have hrT : rg (eT e) n = false := by rw [rg_T]; exact hr
  have heT : eIn (eT e) n := fun j i h => ⟨(he i j h).2, (he i j h).1⟩
  have hup : ∀ j k, e j k = true → (wr e n i k || k == i) = true → (wr e n i j || j == i) = true := by
    intro j k hjk hk
    simp only [Bool.or_eq_true, beq_iff_eq] at hk ⊢
    rcases hk with h | rfl
    · exact Or.inl (wr_trans (he j k hjk).1 h (wr_base hjk))
    · exact Or.inl (wr_base hjk)
  have gU : ∀ x y, wr e n x y = true → hU e n y < hU e n x := by
    intro x y hxy
    exact (ly_wr (s := fun _ => true) h7 hrT heT (fun _ _ _ _ => rfl) (by rw [wr_T]; exact hxy) rfl).2
  obtain ⟨t, a, b, c⟩ := pl_all hr (fun x => wr e n i x || x == i)
  have hi1 : ly e n (fun x => wr e n i x || x == i) i = 1 := by
    have p1 := ly_pos (e := e) (n := n) (s := fun x => wr e n i x || x == i) (x := i) (by simp)
    by_cases h1 : 1 < ly e n (fun x => wr e n i x || x == i) i
    · obtain ⟨k, hk, hek, hsk, _⟩ := ly_pred h7 hr hi h1
      simp only [Bool.or_eq_true, beq_iff_eq] at hsk
      have : wr e n i i = true := by
        rcases hsk with h | rfl
        · exact wr_trans hk h (wr_base hek)
        · exact wr_base hek
      rw [hirr] at this
      exact absurd this (by decide)
    · omega
  have ht0 : 0 < t := by
    have := ly_le (s := fun x => wr e n i x || x == i) h7 hr (by omega) b hi
    omega
  -- t at most hU i
  have up : ∀ m x, x < n → ly e n (fun x => wr e n i x || x == i) x = m + 1 → hU e n x + m ≤ hU e n i := by
    intro m
    induction m with
    | zero =>
      intro x hx hm
      have : x = i := by
        have hs : (wr e n i x || x == i) = true := pl_sub ((@ly_iff e n (fun x => wr e n i x || x == i) x 0 (by decide)).mpr (by omega))
        simp only [Bool.or_eq_true, beq_iff_eq] at hs
        rcases hs with h | h
        · have := (ly_wr h7 hr he hup h (by simp)).2
          omega
        · exact h
      subst this
      omega
    | succ m ih =>
      intro x hx hm
      obtain ⟨k, hk, hek, hsk, hlk⟩ := ly_pred (s := fun x => wr e n i x || x == i) h7 hr hx (by omega)
      have := ih k hk (by omega)
      have := gU k x (wr_base hek)
      omega
  have dn : ∀ m x, x < n → (wr e n i x || x == i) = true → hU e n x = m + 1 → ly e n (fun x => wr e n i x || x == i) x + m ≤ t := by
    intro m
    induction m with
    | zero =>
      intro x hx hs _
      have := ly_le (s := fun x => wr e n i x || x == i) h7 hr (by omega) b hx
      omega
    | succ m ih =>
      intro x hx hs hm
      obtain ⟨k, hk, hek, _, hlk⟩ := ly_pred (s := fun _ => true) h7 hrT hx (show 1 < ly (eT e) n (fun _ => true) x by unfold hU at hm; omega)
      have hxk : wr e n x k = true := wr_base (show e k x = true from hek)
      have hsk := hup k x hek hs
      have := ih k hk hsk (by unfold hU at hm ⊢; omega)
      have := (ly_wr h7 hr he hup hxk hs).2
      omega
  have e1 : t = hU e n i := by
    obtain ⟨x, hx, hxt⟩ := ly_top h7 (by omega) c ht0
    have hxt2 := ly_le (s := fun x => wr e n i x || x == i) h7 hr (by omega) b hx
    have := up (t - 1) x hx (by omega)
    have hp : 1 ≤ hU e n x := ly_pos rfl
    have hpi : 1 ≤ hU e n i := ly_pos rfl
    have := dn (hU e n i - 1) i hi (by simp) (by omega)
    omega
  subst e1
  exact ⟨b, c⟩
theorem e_M_findChains (σ : xS) (τ : xL) {n : Nat} (h7 : n ≤ 7) (hG : σ 67 10 = nI n) {a : Nat → Nat → Bool} (hA : Ar σ 86 n (fun j => bs (fun i => a i j) n)) {v : Int32} {d : Nat → Nat → Bool} (hv : (v = 1 ∧ ∀ i j, d i j = a j i) ∨ (v = 0 ∧ ∀ i j, d i j = a i j)) {h : Nat → Nat} (h1 : ∀ x, x < n → 1 ≤ h x ∧ h x ≤ n) (h2 : ∀ x y, x < n → y < n → d x y = true → h y < h x) (h3 : ∀ x, x < n → 1 < h x → ∃ y, y < n ∧ d x y = true ∧ h y + 1 = h x) : Rs m_M_findChains [.ref 67, .int v] σ τ none (fun σ' => Ag [89] σ σ' ∧ Ar σ' 89 n h) := by
  intro Q hQ
  have main : ∀ (u : Value × Value × Value) (σ1 : xS), Ag [89] σ σ1 → Ar σ1 89 n (fun _ => 1) → Ev m_M_findChains 25 [.ref 67, .int v, .int (nI 0), u.1, u.2.1, u.2.2] [] x_g σ1 τ Q := by
    intro u σ1 hg hC
    refine ev_lj (α := Value × Value × Value) (M := m_M_findChains) (pc := 25) (st := []) (g := x_g) (Q := Q) (τ := τ) n (fun r u => [.ref 67, .int v, .int (nI r), u.1, u.2.1, u.2.2]) (fun r σ' => Ag [89] σ σ' ∧ ∃ C, Ar σ' 89 n C ∧ (∀ x, x < n → C x ≤ h x) ∧ ∀ x, x < n → min (h x) (r + 1) ≤ C x) (fun r hr u σ1 hI kk => ?_) (fun u σ1 hI => ?_) u σ1 ⟨hg, fun _ => 1, hC, fun x hx => (h1 x hx).1, fun x hx => Nat.min_le_right _ _⟩
    · refine ev_go 100 [35] ?_
      refine br_f (by rw [hI.1 67 (by decide), hG]; exact nI_ge hr (by omega)) ?_
      refine ev_lj (α := Value × Value) (M := m_M_findChains) (pc := 35) (st := []) (g := x_g) (Q := Q) (τ := τ) n (fun i u => [.ref 67, .int v, .int (nI r), .int (nI i), u.1, u.2]) (fun i σ' => Ag [89] σ σ' ∧ ∃ C, Ar σ' 89 n C ∧ (∀ x, x < n → C x ≤ h x) ∧ (∀ x, x < n → min (h x) (r + 1) ≤ C x) ∧ ∀ x, x < i → min (h x) (r + 2) ≤ C x) (fun i hi u σ2 hJ kk2 => ?_) (fun u σ2 hJ => ?_) (_, _) σ1 ⟨hI.1, hI.2.choose, hI.2.choose_spec.1, hI.2.choose_spec.2.1, hI.2.choose_spec.2.2, fun x hx => absurd hx (Nat.not_lt_zero x)⟩
      · obtain ⟨hg2, C0, c1, c2, c3, c4⟩ := hJ
        refine ev_go 100 [46] ?_
        refine br_f (by rw [hg2 67 (by decide), hG]; exact nI_ge hi (by omega)) ?_
        refine ev_lj (α := Value) (M := m_M_findChains) (pc := 46) (st := []) (g := x_g) (Q := Q) (τ := τ) n (fun j u => [.ref 67, .int v, .int (nI r), .int (nI i), .int (nI j), u]) (fun j σ' => Ag [89] σ σ' ∧ ∃ C, Ar σ' 89 n C ∧ (∀ x, x < n → C x ≤ h x) ∧ (∀ x, x < n → min (h x) (r + 1) ≤ C x) ∧ (∀ x, x < i → min (h x) (r + 2) ≤ C x) ∧ ∀ y, y < j → d i y = true → C y + 1 ≤ C i) (fun j hj u σ3 hK kk3 => ?_) (fun u σ3 hK => ?_) _ σ2 ⟨hg2, C0, c1, c2, c3, c4, fun x hx => absurd hx (Nat.not_lt_zero x)⟩
        · obtain ⟨hg3, C, k1, k2, k3, k4, k5⟩ := hK
          have b1 := h1 i hi
          have b2 := h1 j hj
          have b3 := k2 i hi
          have b4 := k2 j hj
          have hA3 := hA.ag hg3 (by decide)
          have join : Ev m_M_findChains 84 [.ref 67, .int v, .int (nI r), .int (nI i), .int (nI j), u] [.int (x_b (d i j = true))] x_g σ3 τ Q := by
            have keep : ¬ (d i j = true ∧ C i < C j + 1) → Ev m_M_findChains 46 [.ref 67, .int v, .int (nI r), .int (nI i), .int (nI (j + 1)), .int (x_b (d i j = true))] [] x_g (x_row σ3 89 (upd (σ3 89) i (nI (C i)))) τ Q := by
              intro hn
              refine kk3 _ _ ⟨hg3.row (by decide), nup C i (C i), k1.up, ?_, ?_, ?_, ?_⟩
              all_goals rw [show nup C i (C i) = C from by funext x; simp only [nup]; split <;> simp [*]]
              · exact k2
              · exact k3
              · exact k4
              · intro y hy hd
                by_cases e : y = j
                · subst e
                  have : ¬ C i < C y + 1 := fun z => hn ⟨hd, z⟩
                  omega
                · exact k5 y (by omega) hd
            refine ev_go 100 [46] ?_
            by_cases hd : d i j = true
            · refine br_f (xb1 hd) ?_
              refine ⟨7, rfl, q_in (by omega) (by decide), ?_⟩
              rw [k1.get hj (by omega)]
              refine ⟨7, rfl, q_in (by omega) (by decide), ?_⟩
              rw [k1.get hi (by omega)]
              have hle : nI (C j) + 1 ≤ nI (C i) ↔ ¬ C i < C j + 1 := by
                rw [nI_1, ← Int32.not_lt, q_ltI (by omega) (by omega)]
              by_cases hlt : C i < C j + 1
              · refine br_f (fun z => hle.mp z hlt) ?_
                refine ⟨7, rfl, q_in (by omega) (by decide), ?_⟩
                refine ⟨7, rfl, q_in (by omega) (by decide), ?_⟩
                rw [k1.get hj (by omega), cl7 (by omega), nI_1]
                show Ev m_M_findChains 46 [.ref 67, .int v, .int (nI r), .int (nI i), .int (nI j + 1), .int (x_b (d i j = true))] [] x_g _ τ Q
                rw [nI_1]
                have hij : j ≠ i := fun e => by
                  have := h2 i j hi hj hd
                  rw [e] at this
                  omega
                refine kk3 _ _ ⟨hg3.row (by decide), nup C i (C j + 1), k1.up, ?_, ?_, ?_, ?_⟩
                · intro x hx
                  simp only [nup]
                  by_cases e : x = i
                  · subst e
                    rw [if_pos rfl]
                    have := h2 x j hx hj hd
                    omega
                  · rw [if_neg e]
                    exact k2 x hx
                · intro x hx
                  simp only [nup]
                  by_cases e : x = i
                  · subst e
                    rw [if_pos rfl]
                    have := k3 x hx
                    omega
                  · rw [if_neg e]
                    exact k3 x hx
                · intro x hx
                  simp only [nup]
                  rw [if_neg (by omega)]
                  exact k4 x hx
                · intro y hy hdy
                  simp only [nup]
                  have hyi : y ≠ i := fun e => by
                    have := h2 i y hi (by omega) hdy
                    rw [e] at this
                    omega
                  rw [if_pos trivial, if_neg hyi]
                  by_cases e : y = j
                  · subst e
                    omega
                  · have := k5 y (by omega) hdy
                    omega
              · refine br_t (hle.mpr hlt) ?_
                refine ⟨7, rfl, q_in (by omega) (by decide), ?_⟩
                refine ⟨7, rfl, q_in (by omega) (by decide), ?_⟩
                rw [k1.get hi (by omega), cl7 (by omega)]
                show Ev m_M_findChains 46 [.ref 67, .int v, .int (nI r), .int (nI i), .int (nI j + 1), .int (x_b (d i j = true))] [] x_g _ τ Q
                rw [nI_1]
                exact keep (fun z => hlt z.2)
            · refine br_t (xb0 hd) ?_
              refine ⟨7, rfl, q_in (by omega) (by decide), ?_⟩
              refine ⟨7, rfl, q_in (by omega) (by decide), ?_⟩
              rw [k1.get hi (by omega), cl7 (by omega)]
              show Ev m_M_findChains 46 [.ref 67, .int v, .int (nI r), .int (nI i), .int (nI j + 1), .int (x_b (d i j = true))] [] x_g _ τ Q
              rw [nI_1]
              exact keep (fun z => hd z.1)
          refine ev_go 100 [84] ?_
          refine br_f (by rw [hg3 67 (by decide), hG]; exact nI_ge hj (by omega)) ?_
          rcases hv with ⟨rfl, hdv⟩ | ⟨rfl, hdv⟩
          · refine br_f (by decide) ?_
            refine ⟨7, rfl, q_in (by omega) (by decide), ?_⟩
            rw [hA3.get hi (by omega)]
            refine e_M_has σ3 τ (b31 h7) (by omega) _ ?_
            rw [show (bs (fun x => a x i) n).testBit j = d i j by rw [bs_bit, hdv]; simp [hj]]
            exact join
          · refine br_t rfl ?_
            refine ⟨7, rfl, q_in (by omega) (by decide), ?_⟩
            rw [hA3.get hj (by omega)]
            refine e_M_has σ3 τ (b31 h7) (by omega) _ ?_
            rw [show (bs (fun x => a x j) n).testBit i = d i j by rw [bs_bit, hdv]; simp [hi]]
            exact join
        · obtain ⟨hg3, C, k1, k2, k3, k4, k5⟩ := hK
          refine ev_go 100 [35] ?_
          refine br_t (by rw [hg3 67 (by decide), hG]; exact nI_le (Nat.le_refl _) (by omega)) ?_
          show Ev m_M_findChains 35 [.ref 67, .int v, .int (nI r), .int (nI i + 1), .int (nI n), u] [] x_g _ τ Q
          rw [nI_1]
          refine kk2 (_, _) _ ⟨hg3, C, k1, k2, k3, fun x hx => ?_⟩
          by_cases e : x = i
          · subst e
            by_cases hx1 : 1 < h x
            · obtain ⟨y, hy, hdy, hhy⟩ := h3 x hi hx1
              have := k5 y hy hdy
              have := k3 y hy
              omega
            · have := k3 x hi
              have := h1 x hi
              omega
          · exact k4 x (by omega)
      · obtain ⟨hg2, C, c1, c2, c3, c4⟩ := hJ
        refine ev_go 100 [25] ?_
        refine br_t (by rw [hg2 67 (by decide), hG]; exact nI_le (Nat.le_refl _) (by omega)) ?_
        show Ev m_M_findChains 25 [.ref 67, .int v, .int (nI r + 1), .int (nI n), u.1, u.2] [] x_g _ τ Q
        rw [nI_1]
        exact kk (_, _, _) _ ⟨hg2, C, c1, c2, c4⟩
    · obtain ⟨hg2, C, c1, c2, c3⟩ := hI
      refine ev_go 100 [25] ?_
      refine br_t (by rw [hg2 67 (by decide), hG]; exact nI_le (Nat.le_refl _) (by omega)) ?_
      refine hQ _ ⟨hg2, c1.congr (fun x hx => ?_)⟩
      have := c2 x hx
      have := c3 x hx
      have := h1 x hx
      omega
  refine ev_go 100 [2] ?_
  refine ev_lp (M := m_M_findChains) (pc := 2) (st := []) (g := x_g) (Q := Q) (τ := τ) n (fun k => [.ref 67, .int v, .int (nI k), .null, .null, .null]) (fun k σ' => Ag [89] σ σ' ∧ Ar σ' 89 k (fun _ => 1)) (fun k hk σ1 hI kk => ?_) (fun σ1 hI => ?_) σ ⟨Ag.refl, fun j hj => absurd hj (Nat.not_lt_zero j)⟩
  · refine ev_go 100 [2] ?_
    refine br_f (by rw [hI.1 67 (by decide), hG]; exact nI_ge hk (by omega)) ?_
    refine ⟨7, rfl, q_in (by omega) (by decide), ?_⟩
    show Ev m_M_findChains 2 [.ref 67, .int v, .int (nI k + 1), .null, .null, .null] [] x_g _ τ Q
    rw [nI_1, cl7 (by omega)]
    refine kk _ ⟨hI.1.row (by decide), fun j hj => ?_⟩
    rw [x_row_eq]
    simp only [upd]
    by_cases e : j = k
    · rw [if_pos e]
      rfl
    · rw [if_neg e]
      exact hI.2 j (by omega)
  · refine ev_go 100 [25] ?_
    refine br_t (by rw [hI.1 67 (by decide), hG]; exact nI_le (Nat.le_refl _) (by omega)) ?_
    exact main (_, _, _) σ1 hI.1 hI.2
theorem pair_chain (i : Int32) : Pair m_S_chain m_M_chain [.int i] := by
  intro σ τ hR
  obtain ⟨P, hC, hM, hV, hK⟩ := hR.2.2.1
  have h7 := hV.1
  refine ev_go 100 [] ?_
  refine e_P_isTrack σ τ i _ ?_
  rw [hC.1]
  by_cases h2 : (¬ i < 0 ∧ ¬ nI (pn P) ≤ i)
  · refine bn_t (xb1 h2) ?_
    refine e_S_closesToRing σ τ hC hV _ (fun σ1 h1 => ?_)
    have hM1 := hM.ag h1.1 (by decide)
    by_cases hr : rg (edP P) (pn P) = true
    · refine br_f (xb1 hr) ?_
      refine e_S_refuse σ1 τ 4 in4 _ ?_
      refine ⟨rfl, ?_⟩
      have hM2 := hM1.ag (Ag.cref (f := 4)) (by decide)
      refine ev_go 100 [] ?_
      refine e_M_isTrack _ τ hM2 hV _ _ ?_
      refine bn_t (xb1 h2) ?_
      refine e_M_isRingNow _ τ hM2 hV _ (fun σ2 h3 => ?_)
      refine br_f (xb1 hr) ?_
      refine e_M_finds σ2 τ 4 in4 _ ?_
      exact ⟨rfl, rfl, ⟨_, rfl⟩, hR.fnd h1.1 (by decide) (f := 4) (by decide) h3.1 (by decide)⟩
    · refine br_t (xb0 hr) ?_
      obtain ⟨a, ha, rfl⟩ := (q_trk hV.1 i).mp h2
      have hr' : rg (edP P) (pn P) = false := by simpa using hr
      have he := edP_in hV
      have heT : eIn (eT (edP P)) (pn P) := fun j i h => ⟨(he i j h).2, (he i j h).1⟩
      have hrT : rg (eT (edP P)) (pn P) = false := by rw [rg_T]; exact hr'
      have lU := lay_up h7 hr' he ha
      have lD := lay_dn h7 hr' he ha
      have bU : hU (edP P) (pn P) a ≤ 7 := Nat.le_trans (ly_le7 h7 hrT ha) h7
      have bD : hD (edP P) (pn P) a ≤ 7 := Nat.le_trans (ly_le7 h7 hr' ha) h7
      refine ⟨7, rfl, q_in (by omega) (by decide), ?_⟩
      refine e_G_layersOf_ok σ1 τ h7 h1.2.1.1 h1.2.1.2 (fun x => wr (edP P) (pn P) a x || x == a) (by rw [h1.2.2.get (by omega) (by omega), q_shl1 (by omega), q_or, bs_or ha]) (by omega) lU.1 lU.2 _ ?_
      have hGc := h1.2.ag (Ag.ctold (v := nI (hU (edP P) (pn P) a))) (by decide) (by decide) (by decide)
      refine e_G_surelyAheadOf (c_told σ1 (nI (hU (edP P) (pn P) a))) τ h7 hGc.1.1 hGc.2 ha _ ?_
      refine e_G_layersOf_ok (c_told σ1 (nI (hU (edP P) (pn P) a))) τ h7 hGc.1.1 hGc.1.2 (fun x => wr (edP P) (pn P) x a || x == a) (by rw [q_shl1 (by omega), q_or, bs_or ha]) (by omega) lD.1 lD.2 _ ?_
      refine ⟨rfl, ?_⟩
      have hM2 := hM1.ag (Ag.ctold (v := nI (hU (edP P) (pn P) a))) (by decide)
      refine ev_go 100 [] ?_
      refine e_M_isTrack _ τ hM2 hV _ _ ?_
      refine bn_t (xb1 h2) ?_
      refine e_M_isRingNow _ τ hM2 hV _ (fun σ2 h3 => ?_)
      refine br_t (xb0 hr) ?_
      have hM3 := hM2.ag h3.1 (by decide)
      refine e_M_findChains σ2 τ h7 hM3.1 h3.2.2 (d := fun i j => wr (edP P) (pn P) j i) (Or.inl ⟨rfl, fun _ _ => rfl⟩) (h := hD (edP P) (pn P)) (fun x hx => ⟨ly_pos rfl, ly_le7 h7 hr' hx⟩) (fun x y hx hy hd => (ly_wr (s := fun _ => true) h7 hr' he (fun _ _ _ _ => rfl) hd rfl).2) (fun x hx h1x => ?_) _ (fun σ3 h4 => ?_)
      · obtain ⟨k, hk, hek, _, hlk⟩ := ly_pred (s := fun _ => true) h7 hr' hx h1x
        exact ⟨k, hk, wr_base hek, hlk⟩
      refine ⟨7, rfl, q_in (by omega) (by decide), ?_⟩
      rw [h4.2.get ha (by omega)]
      have hM4 := hM3.ag h4.1 (by decide)
      refine e_M_findChains σ3 τ h7 hM4.1 (h3.2.2.ag h4.1 (by decide)) (d := fun i j => wr (edP P) (pn P) i j) (Or.inr ⟨rfl, fun _ _ => rfl⟩) (h := hU (edP P) (pn P)) (fun x hx => ⟨ly_pos rfl, ly_le7 h7 hrT hx⟩) (fun x y hx hy hd => (ly_wr (s := fun _ => true) h7 hrT heT (fun _ _ _ _ => rfl) (by rw [wr_T]; exact hd) rfl).2) (fun x hx h1x => ?_) _ (fun σ4 h5 => ?_)
      · obtain ⟨k, hk, hek, _, hlk⟩ := ly_pred (s := fun _ => true) h7 hrT hx h1x
        exact ⟨k, hk, wr_base (show edP P k x = true from hek), hlk⟩
      refine ⟨7, rfl, q_in (by omega) (by decide), ?_⟩
      rw [h5.2.get ha (by omega)]
      refine e_M_tells σ4 τ _ _ _ ?_
      exact ⟨rfl, rfl, ⟨_, rfl⟩, hR.tld (L2 := [85, 86, 89]) h1.1 (by decide) (((h3.1.mono (by decide)).trans (h4.1.mono (by decide))).trans (h5.1.mono (by decide))) (by decide)⟩
  · refine bn_f (xb0 h2) ?_
    refine ⟨rfl, ?_⟩
    refine ev_go 100 [] ?_
    refine e_M_isTrack σ τ hM hV _ _ ?_
    refine bn_f (xb0 h2) ?_
    exact ⟨rfl, rfl, ⟨_, rfl⟩, hR⟩
