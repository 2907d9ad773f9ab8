/-! RINGS, PAIRED -/
def rm (e : Nat → Nat → Bool) (n : Nat) : Nat → Nat × Nat
  | 0 => (0, n)
  | k + 1 => if rV e n (n - 1 - k) < n ∧ rV e n (n - 1 - k) ≤ (rm e n k).2 then (n - 1 - k, rV e n (n - 1 - k)) else rm e n k
theorem rm_ok {e : Nat → Nat → Bool} {n : Nat} : ∀ k, k ≤ n → ((rm e n k).2 = n ∧ ∀ l, n - k ≤ l → l < n → rV e n l = n) ∨ ((rm e n k).2 < n ∧ n - k ≤ (rm e n k).1 ∧ (rm e n k).1 < n ∧ rV e n (rm e n k).1 = (rm e n k).2 ∧ (∀ l, n - k ≤ l → l < n → (rm e n k).2 ≤ rV e n l) ∧ ∀ l, n - k ≤ l → l < (rm e n k).1 → (rm e n k).2 < rV e n l)
  | 0, _ => Or.inl ⟨rfl, fun l h1 h2 => by omega⟩
  | k + 1, hk => by
    have hle : ∀ l, rV e n l ≤ n := fun l => fi_le
    simp only [rm]
    by_cases hc : rV e n (n - 1 - k) < n ∧ rV e n (n - 1 - k) ≤ (rm e n k).2
    · rw [if_pos hc]
      right
      refine ⟨hc.1, by show n - (k + 1) ≤ n - 1 - k; omega, by show n - 1 - k < n; omega, rfl, fun l h1 h2 => ?_, fun l h1 h2 => ?_⟩
      · show rV e n (n - 1 - k) ≤ rV e n l
        by_cases el : l = n - 1 - k
        · rw [el]
          exact Nat.le_refl _
        · rcases rm_ok (e := e) (n := n) k (by omega) with ⟨a, b⟩ | ⟨a, b, c, d, f, g⟩
          · rw [b l (by omega) h2]
            omega
          · have := f l (by omega) h2
            omega
      · have h2' : l < n - 1 - k := h2
        omega
    · rw [if_neg hc]
      have hl := hle (n - 1 - k)
      rcases rm_ok (e := e) (n := n) k (by omega) with ⟨a, b⟩ | ⟨a, b, c, d, f, g⟩
      · left
        refine ⟨a, fun l h1 h2 => ?_⟩
        by_cases el : l = n - 1 - k
        · rw [el]
          omega
        · exact b l (by omega) h2
      · right
        refine ⟨a, by omega, c, d, fun l h1 h2 => ?_, fun l h1 h2 => ?_⟩
        · by_cases el : l = n - 1 - k
          · rw [el]
            omega
          · exact f l (by omega) h2
        · by_cases el : l = n - 1 - k
          · rw [el]
            omega
          · exact g l (by omega) h2
def bb (n : Nat) (p : Nat × Nat) : Int32 := if p.2 < n then nI p.1 else -9
/-- the least in the last m of n, n: none -/
def dn (f : Nat → Bool) (n : Nat) : Nat → Nat
  | 0 => n
  | m + 1 => if f (n - 1 - m) = true then n - 1 - m else dn f n m
theorem dn_ok {f : Nat → Bool} {n : Nat} : ∀ m, m ≤ n → (dn f n m = n ∧ ∀ y, n - m ≤ y → y < n → f y = false) ∨ (n - m ≤ dn f n m ∧ dn f n m < n ∧ f (dn f n m) = true ∧ ∀ y, n - m ≤ y → y < dn f n m → f y = false)
  | 0, _ => Or.inl ⟨rfl, fun y h1 h2 => by omega⟩
  | m + 1, hm => by
    simp only [dn]
    by_cases h : f (n - 1 - m) = true
    · rw [if_pos h]
      exact Or.inr ⟨by omega, by omega, h, fun y h1 h2 => by omega⟩
    · rw [if_neg h]
      have ex : ∀ y, n - (m + 1) ≤ y → y < n - m → f y = false := fun y h1 h2 => by
        rw [show y = n - 1 - m by omega]
        simpa using h
      rcases dn_ok (f := f) (n := n) m (by omega) with ⟨a, b⟩ | ⟨a, b, c, d⟩
      · refine Or.inl ⟨a, fun y h1 h2 => ?_⟩
        by_cases z : y < n - m
        · exact ex y h1 z
        · exact b y (by omega) h2
      · refine Or.inr ⟨by omega, b, c, fun y h1 h2 => ?_⟩
        by_cases z : y < n - m
        · exact ex y h1 z
        · exact d y (by omega) h2
def nb (n d : Nat) : Int32 := if d < n then nI d else -9
theorem pair_ring (r : Int32) : Pair m_S_ring m_M_ring [.int r] := by
  intro σ τ hR
  obtain ⟨P, hC, hM, hV, hK⟩ := hR.2.2.1
  have h7 := hV.1
  refine ev_go 100 [50] ?_
  refine e_H_isNumber1 σ τ r _ ?_
  rcases q_ix r 6 (by decide) with h0 | ⟨k, hk, rfl⟩
  · refine bn_f (xb0 (fun q => h0.elim q.1 q.2)) ?_
    refine ⟨rfl, ?_⟩
    refine ev_go 100 [] ?_
    refine e_M_isRow σ τ r _ ?_
    refine bn_f (xb0 (fun q => h0.elim q.1 (fun z => q.2 ((q_5 r).mpr z)))) ?_
    exact ⟨rfl, rfl, ⟨_, rfl⟩, hR⟩
  refine bn_t (xb1 (in_row6 hk)) ?_
  refine e_G_takeAll σ τ hC hV _ (fun σ1 h1 => ?_)
  have hG1 : Gr σ1 (pn P) (edP P) := ⟨h1.2.1, h1.2.2⟩
  have he := edP_in hV
  have hself : ∀ x, edP P x x = false := fun x => by
    cases hx : edP P x x
    · rfl
    · exact absurd rfl (ed_lt hV hx).2.2
  generalize hn : pn P = n at *
  have hcl0 : ∀ l, l < n → cl (edP P) n l 0 = false := fun l hl => by
    cases hc : cl (edP P) n l 0
    · rfl
    · obtain ⟨i, hi, hb, h2⟩ := cl_iff.mp hc
      simp only [bk, beq_iff_eq] at hb
      rw [hb, hself] at h2
      exact absurd h2 (by decide)
  have first : ∀ (σ4 : xS) (Q : xQ), PM σ4 P → (∀ (u : Value × Value) (σ5 : xS), Ag [85, 86, 90] σ4 σ5 → Mr σ5 n (edP P) → Ev m_M_ring 96 [.ref 67, .int (nI k), .int (bb n (rm (edP P) n n)), .int (ob n (rm (edP P) n n).2), .int (-1), u.1, u.2, .null] [] x_g σ5 τ Q) → Ev m_M_ring 0 (x_loc [.ref 67, .int (nI k)] m_M_ring.2.2.1) [] x_g σ4 τ Q := by
    intro σ4 Q hM4 kk
    refine ev_go 100 [27] ?_
    refine e_M_isRow _ τ _ _ ?_
    refine bn_t (xb1 (in_row hk)) ?_
    refine e_M_findNow σ4 τ hM4 hV _ (fun σ5 h5 => ?_)
    rw [hn] at h5
    have hM5 := hM4.ag h5.1 (by decide)
    have hn5 : σ5 67 10 = nI n := hn ▸ hM5.1
    show Ev m_M_ring 27 [.ref 67, .int (nI k), .int (-9), .int (-9), .int (σ5 67 10 - 1), .null, .null, .null] [] x_g σ5 τ Q
    have e0 : bb n (rm (edP P) n 0) = -9 := by simp [bb, rm]
    have e1 : ob n (rm (edP P) n 0).2 = -9 := by simp [ob, rm]
    have step := ev_lj (α := Value × Value) (M := m_M_ring) (pc := 27) (st := []) (g := x_g) (Q := Q) (τ := τ) n (fun j u => [.ref 67, .int (nI k), .int (bb n (rm (edP P) n j)), .int (ob n (rm (edP P) n j).2), .int (nI (n - j) - 1), u.1, u.2, .null]) (fun j σ' => Ag [85, 86, 90] σ4 σ' ∧ Mr σ' n (edP P)) (fun j hj u σ6 hI kk2 => ?_) (fun u σ6 hI => ?_) (.null, .null) σ5 ⟨h5.1.mono (by decide), h5.2.1⟩
    · rw [e0, e1, Nat.sub_zero] at step
      rw [hn5]
      exact step
    · obtain ⟨i, hi⟩ : ∃ i, n - j = i + 1 := ⟨n - j - 1, by omega⟩
      have hM6 := hM4.ag hI.1 (by decide)
      have hn6 : σ6 67 10 = nI n := hn ▸ hM6.1
      rw [hi, nI_pred]
      refine ev_go 100 [64, 27] ?_
      refine br_f (nI_pos (by omega)) ?_
      refine e_M_ringBy σ6 τ h7 hn6 he hself hI.2 (l := i) (by omega) _ (fun σ7 h8 => ?_)
      have hM7 := hM6.ag h8 (by decide)
      have hle : rV (edP P) n i ≤ n := fi_le
      have ei : n - 1 - j = i := by omega
      have e2 : (rm (edP P) n j).2 ≤ n := by
        rcases rm_ok (e := edP P) (n := n) j (by omega) with ⟨a, _⟩ | ⟨a, _⟩
        · omega
        · omega
      have hrm : rm (edP P) n (j + 1) = if rV (edP P) n i < n ∧ rV (edP P) n i ≤ (rm (edP P) n j).2 then (i, rV (edP P) n i) else rm (edP P) n j := by
        simp only [rm, ei]
      have hI7 : Ag [85, 86, 90] σ4 σ7 ∧ Mr σ7 n (edP P) := ⟨hI.1.trans (h8.mono (by decide)), hI.2.ag h8 (by decide)⟩
      generalize rV (edP P) n i = w at hrm hle ⊢
      have join : Ev m_M_ring 64 [.ref 67, .int (nI k), .int (bb n (rm (edP P) n j)), .int (ob n (rm (edP P) n j).2), .int (nI i), .int (ob n w), u.2, .null] [.int (x_b (w < n ∧ w ≤ (rm (edP P) n j).2))] x_g σ7 τ Q := by
        by_cases hc : w < n ∧ w ≤ (rm (edP P) n j).2
        · rw [if_pos hc] at hrm
          refine ev_go 100 [27] ?_
          refine br_f (xb1 hc) ?_
          refine br_f (xb1 hc) ?_
          show Ev m_M_ring 27 [.ref 67, .int (nI k), .int (nI i), .int (ob n w), .int (nI i + (-1)), .int (ob n w), .int (x_b (w < n ∧ w ≤ (rm (edP P) n j).2)), .null] [] x_g σ7 τ Q
          rw [m1_sub, show i = n - (j + 1) by omega]
          have := kk2 (.int (ob n w), .int (x_b (w < n ∧ w ≤ (rm (edP P) n j).2))) σ7 hI7
          rw [hrm] at this
          simp only [bb, if_pos hc.1] at this
          rw [show i = n - (j + 1) by omega] at this
          exact this
        · rw [if_neg hc] at hrm
          refine ev_go 100 [27] ?_
          refine br_t (xb0 hc) ?_
          refine br_t (xb0 hc) ?_
          show Ev m_M_ring 27 [.ref 67, .int (nI k), .int (bb n (rm (edP P) n j)), .int (ob n (rm (edP P) n j).2), .int (nI i + (-1)), .int (ob n w), .int (x_b (w < n ∧ w ≤ (rm (edP P) n j).2)), .null] [] x_g σ7 τ Q
          rw [m1_sub, show i = n - (j + 1) by omega]
          have := kk2 (.int (ob n w), .int (x_b (w < n ∧ w ≤ (rm (edP P) n j).2))) σ7 hI7
          rw [hrm] at this
          exact this
      by_cases t1 : w < n
      · refine br_f (by unfold ob; rw [if_pos t1]; exact nI_ne9 (by omega)) ?_
        by_cases t2 : (rm (edP P) n j).2 < n
        · refine br_f (by unfold ob; rw [if_pos t2]; exact nI_ne9 (by omega)) ?_
          by_cases t3 : w ≤ (rm (edP P) n j).2
          · refine br_f (by unfold ob; rw [if_pos t1, if_pos t2]; exact nI_nlt (by omega) (by omega)) ?_
            rw [x_b_t ⟨t1, t3⟩] at join
            exact join
          · refine br_t (by unfold ob; rw [if_pos t1, if_pos t2]; exact nI_lt (by omega) (by omega)) ?_
            rw [x_b_f (fun z => t3 z.2)] at join
            exact join
        · refine br_t (by unfold ob; rw [if_neg t2]) ?_
          rw [x_b_t ⟨t1, by omega⟩] at join
          exact join
      · refine br_t (by unfold ob; rw [if_neg t1]) ?_
        rw [x_b_f (fun z => t1 z.1)] at join
        exact join
    · rw [Nat.sub_self]
      refine ev_go 100 [96] ?_
      refine br_t (by decide) ?_
      exact kk u σ6 hI.1 hI.2
  rcases rm_ok (e := edP P) (n := n) n (Nat.le_refl n) with ⟨a, b⟩ | ⟨a, -, c, d, f, g⟩
  · -- no ring
    have hno : ∀ s l, s < n → l < n → cl (edP P) n l s = false := by
      intro s l hs hl
      cases hc : cl (edP P) n l s
      · rfl
      · have := fi_min (f := cl (edP P) n l) (n := n) hs hc
        have h2 := b l (by omega) hl
        unfold rV at h2
        omega
    refine e_G_findRing_no σ1 τ h7 hG1 hno _ (fun σ2 h2 => ?_)
    refine bn_f rfl ?_
    refine ⟨rfl, ?_⟩
    have hM2 := (hM.ag h1.1 (by decide)).ag h2 (by decide)
    refine first σ2 _ hM2 (fun u σ5 h5 _ => ?_)
    have e1 : ob n (rm (edP P) n n).2 = -9 := by unfold ob; rw [if_neg (by omega)]
    rw [e1]
    refine ev_go 100 [] ?_
    refine bn_f rfl ?_
    exact ⟨rfl, rfl, ⟨_, rfl⟩, ((hR.ag h1.1 (by decide)).ag h2 (by decide)).ag h5 (by decide)⟩
  · -- the ring at l of s + 1
    generalize hl : (rm (edP P) n n).1 = l at *
    generalize hs : (rm (edP P) n n).2 = s at *
    have hcl : cl (edP P) n l s = true := by
      have := fi_lt (f := cl (edP P) n l) (n := n) (by unfold rV at d; omega)
      unfold rV at d
      rw [d] at this
      exact this.1
    have hm : ∀ s' l', s' < s → l' < n → cl (edP P) n l' s' = false := by
      intro s' l' h1 h2
      cases hc : cl (edP P) n l' s'
      · rfl
      · have h3 := fi_min (f := cl (edP P) n l') (n := n) (s := s') (by omega) hc
        have h4 := f l' (by omega) h2
        unfold rV at h4
        omega
    have hm2 : ∀ l', l' < l → cl (edP P) n l' s = false := by
      intro l' h2
      cases hc : cl (edP P) n l' s
      · rfl
      · have h3 := fi_min (f := cl (edP P) n l') (n := n) a hc
        have h4 := g l' (by omega) h2
        unfold rV at h4
        omega
    have hs1 : 1 ≤ s := by
      rcases Nat.eq_zero_or_pos s with z | z
      · rw [z, hcl0 l c] at hcl
        exact absurd hcl (by decide)
      · exact z
    have hrt : ∀ p, p ≤ s → rt (edP P) n l s p < n := by
      intro p hp
      cases p with
      | zero => exact c
      | succ p => exact (rt_ok hcl p (by omega)).1
    have hdn : ∀ p, p < s → dn (fun x => edP P x (rt (edP P) n l s p) && decide (fD (edP P) n l x = s - p)) n (n - 1 - l) = rt (edP P) n l s (p + 1) := by
      intro p hp
      obtain ⟨r1, r2, r3, r4⟩ := rt_ok hcl p hp
      have hf : ∀ x, x < n → ((bk (edP P) n l (s - p) x && edP P x (rt (edP P) n l s p)) = true ↔ l < x ∧ edP P x (rt (edP P) n l s p) = true ∧ fD (edP P) n l x = s - p) := fun x hx => rt_far hcl a (fun s' hs' => hm s' l hs' c) hp hx
      rcases dn_ok (f := fun x => edP P x (rt (edP P) n l s p) && decide (fD (edP P) n l x = s - p)) (n := n) (n - 1 - l) (by omega) with ⟨x1, x2⟩ | ⟨x1, x2, x3, x4⟩
      · have := (hf _ r1).mp (by rw [r2, r3]; rfl)
        have h2 := x2 _ (by omega) r1
        simp only [this.2.1, this.2.2, decide_true, Bool.and_self] at h2
        exact absurd h2 (by decide)
      · symm
        simp only [Bool.and_eq_true, decide_eq_true_eq] at x3
        refine fi_of x2 ((hf _ x2).mpr ⟨by omega, x3⟩) (fun j hj => ?_)
        cases hb : (bk (edP P) n l (s - p) j && edP P j (rt (edP P) n l s p))
        · rfl
        · have h3 := (hf j (by omega)).mp hb
          have h4 := x4 j (by omega) hj
          simp only [h3.2.1, h3.2.2, decide_true, Bool.and_self] at h4
          exact absurd h4 (by decide)
    refine e_G_findRing_ok σ1 τ h7 hG1 a hs1 c hcl hm hm2 _ (fun σ2 h2 => ?_)
    have hA2 : Ag [31, 32, 37, 38] σ σ2 := (h1.1.mono (by decide)).trans (h2.1.mono (by decide))
    refine bn_t (nI_ne0 (by omega) (by omega)) ?_
    refine e_H_make_row σ2 τ hk (nI (s + 1)) (by rw [hA2 1 (by decide)]; exact hR.1.1) _ ?_
    have c1 : ∀ q, q ≠ 3 + k → q ≠ 9 → c_row σ2 k (nI (s + 1)) q = σ2 q := fun q a b => by
      unfold c_row
      rw [x_row_ne b, x_row_ne a]
    have cls : ∀ Q : xQ, (∀ σ3, (∀ q, q ≠ 3 + k → q ≠ 9 → σ3 q = σ2 q) → σ3 9 = upd (σ 9) k (nI (s + 1)) → (∀ i, i < 40 → σ3 (3 + k) i = if i < s + 1 then nI (rt (edP P) n l s i) else 0) → Q (some (.int (nI (s + 1)))) x_g σ3 τ) → Ev m_S_ring 50 [.ref 0, .int (nI k), .int (nI (s + 1)), .int (nI 0)] [] x_g (c_row σ2 k (nI (s + 1))) τ Q := by
      intro Q hq
      refine ev_lp (M := m_S_ring) (pc := 50) (st := []) (g := x_g) (Q := Q) (τ := τ) (s + 1) (fun i => [.ref 0, .int (nI k), .int (nI (s + 1)), .int (nI i)]) (fun j σ' => (∀ q, q ≠ 3 + k → q ≠ 9 → σ' q = σ2 q) ∧ σ' 9 = upd (σ 9) k (nI (s + 1)) ∧ ∀ i, i < 40 → σ' (3 + k) i = if i < j then nI (rt (edP P) n l s i) else 0) (fun j hj σ3 hI kk => ?_) (fun σ3 hI => ?_) _ ⟨c1, ?_, ?_⟩
      · refine ev_go 100 [50] ?_
        refine br_f (nI_ge hj (by omega)) ?_
        refine ⟨18, 6, 3 + k, rfl, Or.inl rfl, q_in hk (by decide), by rw [cl7 (by omega)]; exact rf_rows k hk, ?_⟩
        refine ⟨7, rfl, q_in (by omega) (by decide), ?_⟩
        refine ⟨40, sh_rows k hk, q_in (by omega) (by decide), ?_⟩
        rw [show σ3 37 (nI j).toNatClampNeg = nI (rt (edP P) n l s j) from by rw [cl7 (by omega), hI.1 37 (by omega) (by omega)]; exact h2.2 j hj, cl7 (by omega)]
        show Ev m_S_ring 50 [.ref 0, .int (nI k), .int (nI (s + 1)), .int (nI j + 1)] [] x_g _ τ Q
        rw [nI_1]
        refine kk _ ⟨fun q a b => by rw [x_row_ne a]; exact hI.1 q a b, by rw [x_row_ne (by omega)]; exact hI.2.1, fun i hi => ?_⟩
        rw [x_row_eq]
        simp only [upd]
        by_cases ei : i = j
        · rw [if_pos ei, if_pos (by omega), ei]
        · rw [if_neg ei, hI.2.2 i hi]
          by_cases ei2 : i < j
          · rw [if_pos ei2, if_pos (by omega)]
          · rw [if_neg ei2, if_neg (by omega)]
      · refine ev_go 100 [] ?_
        refine br_t (nI_le (Nat.le_refl _) (by omega)) ?_
        exact hq σ3 hI.1 hI.2.1 hI.2.2
      · unfold c_row
        rw [x_row_eq, hA2 9 (by decide)]
      · intro i hi
        unfold c_row
        rw [x_row_ne (by omega), x_row_eq]
        simp [hi]
    refine cls _ (fun σ3 q1 q2 q3 => ?_)
    refine ⟨rfl, ?_⟩
    have hM2 := hM.ag hA2 (by decide)
    have hM3 : PM σ3 P := hM2.congr (by rw [q1 67 (by omega) (by omega)]) (by rw [q1 67 (by omega) (by omega)]) (by rw [q1 67 (by omega) (by omega)]) (fun q z1 z2 => q1 q (by omega) (by omega))
    refine first σ3 _ hM3 (fun u σ5 h5 hB5 => ?_)
    have hM5 := hM3.ag h5 (by decide)
    have hn5 : σ5 67 10 = nI n := hn ▸ hM5.1
    have eo : ob n s = nI (s + 1) := by unfold ob; rw [if_pos a]
    have eb : bb n (rm (edP P) n n) = nI l := by unfold bb; rw [hl, hs, if_pos a]
    rw [eo, eb]
    have model : ∀ Q : xQ, (∀ σ6, (∀ q, q ≠ 69 → q ≠ 70 → q ∉ [90] → σ6 q = σ5 q) → σ6 69 = upd (σ5 69) k (nI (s + 1)) → (∀ j, j < 240 → σ6 70 j = if 40 * k ≤ j ∧ j < 40 * k + 40 then (if j - 40 * k < s + 1 then nI (rt (edP P) n l s (j - 40 * k)) else 0) else σ5 70 j) → Q (some (.int (nI (s + 1)))) x_g σ6 τ) → Ev m_M_ring 96 [.ref 67, .int (nI k), .int (nI l), .int (nI (s + 1)), .int (-1), u.1, u.2, .null] [] x_g σ5 τ Q := by
      intro Q hq
      refine ev_go 100 [123] ?_
      refine bn_t (nI_ne9 (by omega)) ?_
      refine e_M_findFar σ5 τ h7 hn5 hB5 c _ (fun σ6 h6 => ?_)
      refine e_M_row_ok σ6 τ hk (n := nI (s + 1)) (nI_le (b := 40) (by omega) (by decide)) (nI_pos' (by omega)) _ ?_
      have c2 : ∀ q, q ≠ 69 → q ≠ 70 → m_row σ6 k (nI (s + 1)) q = σ6 q := fun q a b => by
        unfold m_row
        rw [x_row_ne b, x_row_ne a]
      have c69 : m_row σ6 k (nI (s + 1)) 69 = upd (σ5 69) k (nI (s + 1)) := by
        unfold m_row
        rw [x_row_ne (by decide), x_row_eq, h6.1 69 (by decide)]
      have c70 : m_row σ6 k (nI (s + 1)) 70 = blk (σ5 70) (40 * k) 40 0 := by
        unfold m_row
        rw [x_row_eq, h6.1 70 (by decide)]
      refine ev_lu (α := Value × Value × Value) (M := m_M_ring) (pc := 123) (st := []) (g := x_g) (Q := Q) (τ := τ) (s + 1) (fun p u => [.ref 67, .int (nI k), .int (nI l), .int (nI (s + 1)), u.1, .int (nI p), u.2.1, u.2.2]) (fun p u σ' => (p ≤ s → u.1 = .int (nI (rt (edP P) n l s p))) ∧ (∀ q, q ≠ 69 → q ≠ 70 → σ' q = σ6 q) ∧ σ' 69 = upd (σ5 69) k (nI (s + 1)) ∧ ∀ j, j < 240 → σ' 70 j = if 40 * k ≤ j ∧ j < 40 * k + 40 then (if j - 40 * k < p then nI (rt (edP P) n l s (j - 40 * k)) else 0) else σ5 70 j) (fun p hp u σ7 hI kk => ?_) (fun u σ7 hI => ?_) (_, _, _) _ ⟨fun _ => rfl, c2, c69, fun j hj => ?_⟩
      · obtain ⟨i1, i2, i3, i4⟩ := hI
        obtain ⟨u1, u2, u3⟩ := u
        have i1 := i1 (by omega)
        simp only at i1
        subst i1
        have hrp := hrt p (by omega)
        have hn7 : σ7 67 10 = nI n := by rw [i2 67 (by decide) (by decide), h6.1 67 (by decide)]; exact hn5
        have hB7 : Ar σ7 85 7 (fun j => bs (edP P j) n) := fun j hj => by rw [i2 85 (by decide) (by decide), h6.1 85 (by decide)]; exact hB5 j hj
        have hF7 : ∀ x, x < n → σ7 90 x = FV (edP P) n l (n - 1) x := fun x hx => by rw [i2 90 (by decide) (by decide)]; exact h6.2 x hx
        have e40 : (40 : Int32) * nI k + nI p = nI (40 * k + p) := by rw [show (40 : Int32) = nI 40 from rfl, pk_mul, nI_add]
        refine ev_go 100 [155] ?_
        refine br_f (nI_ge (by omega) (by omega)) ?_
        refine ⟨240, rfl, by rw [e40]; exact q_in (by omega) (by decide), ?_⟩
        rw [e40, cl7 (by omega)]
        have j2 : ∀ q, q ≠ 69 → q ≠ 70 → x_row σ7 70 (upd (σ7 70) (40 * k + p) (nI (rt (edP P) n l s p))) q = σ6 q := fun q x y => by
          rw [x_row_ne y]
          exact i2 q x y
        have j3 : x_row σ7 70 (upd (σ7 70) (40 * k + p) (nI (rt (edP P) n l s p))) 69 = upd (σ5 69) k (nI (s + 1)) := by
          rw [x_row_ne (by decide)]
          exact i3
        have j4 : ∀ j, j < 240 → x_row σ7 70 (upd (σ7 70) (40 * k + p) (nI (rt (edP P) n l s p))) 70 j = if 40 * k ≤ j ∧ j < 40 * k + 40 then (if j - 40 * k < p + 1 then nI (rt (edP P) n l s (j - 40 * k)) else 0) else σ5 70 j := fun j hj => by
          rw [x_row_eq]
          simp only [upd]
          by_cases ej : j = 40 * k + p
          · rw [if_pos ej, if_pos (by omega), if_pos (by omega), show j - 40 * k = p by omega]
          · rw [if_neg ej, i4 j hj]
            by_cases e1 : 40 * k ≤ j ∧ j < 40 * k + 40
            · rw [if_pos e1, if_pos e1]
              by_cases e2 : j - 40 * k < p
              · rw [if_pos e2, if_pos (by omega)]
              · rw [if_neg e2, if_neg (by omega)]
            · rw [if_neg e1, if_neg e1]
        have hn8 : x_row σ7 70 (upd (σ7 70) (40 * k + p) (nI (rt (edP P) n l s p))) 67 10 = nI n := hn7
        have hB8 : Ar (x_row σ7 70 (upd (σ7 70) (40 * k + p) (nI (rt (edP P) n l s p)))) 85 7 (fun j => bs (edP P j) n) := hB7
        have hF8 : ∀ x, x < n → x_row σ7 70 (upd (σ7 70) (40 * k + p) (nI (rt (edP P) n l s p))) 90 x = FV (edP P) n l (n - 1) x := hF7
        generalize x_row σ7 70 (upd (σ7 70) (40 * k + p) (nI (rt (edP P) n l s p))) = σ8 at j2 j3 j4 hn8 hB8 hF8 ⊢
        show Ev m_M_ring 155 [.ref 67, .int (nI k), .int (nI l), .int (nI (s + 1)), .int (nI (rt (edP P) n l s p)), .int (nI p), .int (-9), .int (σ8 67 10 - 1)] [] x_g σ8 τ Q
        have e0 : nb n (dn (fun x => edP P x (rt (edP P) n l s p) && decide (fD (edP P) n l x = s - p)) n 0) = -9 := by simp [nb, dn]
        rw [hn8, show nI n - 1 = nI (n - 1) from pk_sub (a := n) (b := 1) (by omega), ← e0]
        refine ev_iter (M := m_M_ring) (pc := 155) (st := []) (g := x_g) (Q := Q) (n - 1 - l) (fun m => ([.ref 67, .int (nI k), .int (nI l), .int (nI (s + 1)), .int (nI (rt (edP P) n l s p)), .int (nI p), .int (nb n (dn (fun x => edP P x (rt (edP P) n l s p) && decide (fD (edP P) n l x = s - p)) n m)), .int (nI (n - 1 - m))], σ8, τ)) (fun m hm kk2 => ?_) ?_
        · dsimp only at kk2 ⊢
          have em : nI (n - 1 - m) + (-1) = nI (n - 1 - (m + 1)) := by
            rw [m1_sub, show nI (n - 1 - m) - 1 = nI (n - 1 - m - 1) from pk_sub (b := 1) (by omega)]
            congr 1
          have no : (edP P (n - 1 - m) (rt (edP P) n l s p) && decide (fD (edP P) n l (n - 1 - m) = s - p)) = false → Ev m_M_ring 155 [.ref 67, .int (nI k), .int (nI l), .int (nI (s + 1)), .int (nI (rt (edP P) n l s p)), .int (nI p), .int (nb n (dn (fun x => edP P x (rt (edP P) n l s p) && decide (fD (edP P) n l x = s - p)) n m)), .int (nI (n - 1 - m) + (-1))] [] x_g σ8 τ Q := by
            intro hf
            rw [em]
            simp only [dn, hf] at kk2
            exact kk2
          refine ev_go 100 [155] ?_
          refine br_f (nI_ge (by omega) (by omega)) ?_
          refine ⟨7, rfl, q_in (by omega) (by decide), ?_⟩
          rw [hB8.get (by omega) (by omega)]
          refine e_M_has σ8 τ (b31 h7) (by omega) _ ?_
          rw [show (bs (edP P (n - 1 - m)) n).testBit (rt (edP P) n l s p) = edP P (n - 1 - m) (rt (edP P) n l s p) by rw [bs_bit]; simp [hrp]]
          by_cases t1 : edP P (n - 1 - m) (rt (edP P) n l s p) = true
          · refine br_f (xb1 t1) ?_
            refine ⟨7, rfl, q_in (by omega) (by decide), ?_⟩
            have ev1 : nI (s + 1) - 1 - nI p = nI (s - p) := by rw [nI_pred, pk_sub (by omega)]
            have ev2 : σ8 90 (nI (n - 1 - m)).toNatClampNeg = nI (s + 1) - 1 - nI p ↔ fD (edP P) n l (n - 1 - m) = s - p := by
              rw [ev1, cl7 (by omega), hF8 _ (by omega)]
              exact FV_eq h7 (by omega) (by omega)
            by_cases t2 : fD (edP P) n l (n - 1 - m) = s - p
            · refine bn_f (ev2.mpr t2) ?_
              show Ev m_M_ring 155 [.ref 67, .int (nI k), .int (nI l), .int (nI (s + 1)), .int (nI (rt (edP P) n l s p)), .int (nI p), .int (nI (n - 1 - m)), .int (nI (n - 1 - m) + (-1))] [] x_g σ8 τ Q
              rw [em]
              have hf : (edP P (n - 1 - m) (rt (edP P) n l s p) && decide (fD (edP P) n l (n - 1 - m) = s - p)) = true := by simp [t1, t2]
              simp only [dn, hf, if_true, nb] at kk2
              rw [if_pos (by omega)] at kk2
              exact kk2
            · refine bn_t (fun z => t2 (ev2.mp z)) ?_
              exact no (by simp [t2])
          · refine br_t (xb0 t1) ?_
            exact no (by simp [t1])
        · dsimp only
          refine ev_go 100 [123] ?_
          refine br_t (nI_le (by omega) (by omega)) ?_
          show Ev m_M_ring 123 [.ref 67, .int (nI k), .int (nI l), .int (nI (s + 1)), .int (nb n (dn (fun x => edP P x (rt (edP P) n l s p) && decide (fD (edP P) n l x = s - p)) n (n - 1 - l))), .int (nI p + 1), _, _] [] x_g σ8 τ Q
          rw [nI_1]
          refine kk (_, _, _) _ ⟨fun hps => ?_, j2, j3, j4⟩
          show Value.int (nb n (dn (fun x => edP P x (rt (edP P) n l s p) && decide (fD (edP P) n l x = s - p)) n (n - 1 - l))) = _
          rw [hdn p (by omega)]
          unfold nb
          rw [if_pos (hrt (p + 1) hps)]
      · refine ev_go 100 [] ?_
        refine br_t (nI_le (Nat.le_refl _) (by omega)) ?_
        exact hq _ (fun q x y z => by rw [hI.2.1 q x y]; exact h6.1 q z) hI.2.2.1 hI.2.2.2
      · rw [c70]
        simp only [blk]
        by_cases e1 : 40 * k ≤ j ∧ j < 40 * k + 40
        · rw [if_pos e1, if_pos e1, if_neg (by omega)]
        · rw [if_neg e1, if_neg e1]
    refine model _ (fun σ6 z1 z2 z3 => ?_)
    refine ⟨rfl, rfl, ⟨_, rfl⟩, ?_⟩
    refine hR.rowed (σ1 := σ5) (L1 := [31, 32, 37, 38, 85, 86, 90]) (L2 := [90]) hk (show s + 1 ≤ 40 by omega) (V := fun i => nI (rt (edP P) n l s i)) (fun q x y z => ?_) (by decide) ?_ (fun i hi => ?_) z1 (by decide) z2 z3
    · simp only [List.mem_cons, List.not_mem_nil, or_false, not_or] at z
      rw [h5 q (by simp; omega), q1 q x y, hA2 q (by simp; omega)]
    · rw [h5 9 (by decide), q2]
    · rw [h5 (3 + k) (by simp; omega)]
      exact q3 i hi
