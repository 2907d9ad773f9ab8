/-! TRACKS OF ONE WHO WENT TWICE; WHAT HIDES -/
def er (e : Nat → Nat → Bool) (s : Nat) : Nat → Nat → Bool := fun j i => tT s j && (tT s i && e j i)
theorem anb_congr {f g : Nat → Bool} : ∀ {n : Nat}, (∀ i, i < n → f i = g i) → anb f n = anb g n
  | 0, _ => rfl
  | n + 1, h => by
    simp only [anb]
    rw [anb_congr (n := n) (fun i hi => h i (by omega)), h n (by omega)]
theorem anb_and {f : Nat → Bool} {b : Bool} : ∀ {n : Nat}, anb (fun k => b && f k) n = (b && anb f n)
  | 0 => by simp [anb]
  | n + 1 => by
    simp only [anb]
    rw [anb_and (n := n)]
    cases b <;> simp
theorem ed_er (P : xP) (s : Nat) (w : Bool) : ed P (fT P 0 s) (tT s) w = er (ed P (tl P) (fun _ => true) w) s := by
  funext j i
  unfold ed er
  have h1 : eC P (fT P 0 s) (pc P) j i = (tT s j && (tT s i && eC P (tl P) (pc P) j i)) := by
    unfold eC
    rw [← anb_and, ← anb_and]
    apply anb_congr
    intro k _
    by_cases e1 : po P k = j
    · by_cases e2 : pu P k = i
      · subst e1 e2
        simp [fT, tT]
      · have : (pu P k == i) = false := beq_eq_false_iff_ne.mpr e2
        simp [this]
    · have : (po P k == j) = false := beq_eq_false_iff_ne.mpr e1
      simp [this]
  rw [h1]
  simp only [eW]
  cases tT s j <;> cases tT s i <;> simp
theorem pl_er {e : Nat → Nat → Bool} {n s : Nat} : ∀ t x, pl e n (tT s) t x = pl (er e s) n (tT s) t x
  | 0, _ => rfl
  | t + 1, x => by
    have ih := fun y => pl_er (e := e) (n := n) (s := s) t y
    simp only [pl, fm]
    rw [ih x]
    cases hp : pl (er e s) n (tT s) t x
    · rfl
    · have hx : tT s x = true := pl_sub hp
      have : anb (fun k => e x k && pl e n (tT s) t k) n = anb (fun k => er e s x k && pl (er e s) n (tT s) t k) n := by
        apply anb_congr
        intro k _
        rw [ih k]
        cases hk : pl (er e s) n (tT s) t k
        · simp
        · have hk2 : tT s k = true := pl_sub hk
          simp [er, hx, hk2]
      rw [this]
theorem nd_tT {n s : Nat} (hs : s < 2 ^ n) : nd (2 ^ n - 1) s = bs (tT s) n := by
  conv => lhs; rw [← bs_all, ← bs_self hs, bs_nd]
  exact bs_ext (fun i _ => by simp [tT])
theorem pp_full {n s : Nat} (hn : n ≤ 32) (hs : s < 2 ^ n) (h : s ≠ 2 ^ n - 1) : pp s < n := by
  obtain ⟨x, hx, hb⟩ := lack hs h
  rw [pp_cnt hs hn]
  have := cnt_lt (f := fun i => s.testBit i) (g := fun _ => true) (n := n) (fun _ _ _ => rfl) ⟨x, hx, rfl, hb⟩
  rwa [cnt_all (fun _ _ => rfl)] at this
theorem pp_all {n : Nat} (hn : n ≤ 32) : pp (2 ^ n - 1) = n := by
  rw [← bs_all, pp_bs _ hn, cnt_all (fun _ _ => rfl)]
def fz (g : Nat → Bool) (n : Nat) : Nat → Nat
  | 0 => 2 ^ n - 1
  | s + 1 => if (decide (pp s < pp (fz g n s)) && g s) = true then s else fz g n s
def wl (g : Nat → Bool) (b : Nat) : Nat → Nat × Nat
  | 0 => (0, b)
  | s + 1 => if (decide (pp s < (wl g b s).2) && g s) = true then (s, pp s) else wl g b s
theorem fz_lt {g : Nat → Bool} {n : Nat} : ∀ s, s ≤ 2 ^ n → fz g n s < 2 ^ n
  | 0, _ => by
    have := Nat.two_pow_pos n
    simp only [fz]
    omega
  | s + 1, h => by
    have := fz_lt (g := g) (n := n) s (by omega)
    simp only [fz]
    split <;> omega
theorem wl_lt {g : Nat → Bool} {b : Nat} : ∀ s, (wl g b s).2 ≤ b ∧ (wl g b s).1 ≤ s
  | 0 => ⟨Nat.le_refl b, Nat.le_refl 0⟩
  | s + 1 => by
    have := wl_lt (g := g) (b := b) s
    simp only [wl]
    by_cases h : (decide (pp s < (wl g b s).2) && g s) = true
    · rw [if_pos h]
      simp only [Bool.and_eq_true, decide_eq_true_eq] at h
      exact ⟨by have := h.1; show pp s ≤ b; omega, by show s ≤ s + 1; omega⟩
    · rw [if_neg h]
      exact ⟨this.1, by omega⟩
theorem fz_wl {g : Nat → Bool} {n : Nat} (h7 : n ≤ 7) (hg : g (2 ^ n - 1) = true) : ∀ s, s ≤ 2 ^ n → (fz g n s = (wl g 8 s).1 ∧ pp (fz g n s) = (wl g 8 s).2) ∨ (fz g n s = 2 ^ n - 1 ∧ (wl g 8 s).2 = 8 ∧ s ≤ 2 ^ n - 1)
  | 0, _ => Or.inr ⟨rfl, rfl, Nat.zero_le _⟩
  | s + 1, hs => by
    have hp := Nat.one_le_two_pow (n := n)
    have hlt := pp_le (s := s) (n := n) (by omega) (by omega)
    rcases fz_wl h7 hg s (by omega) with ⟨h1, h2⟩ | ⟨h1, h2, h3⟩
    · left
      simp only [fz, wl]
      rw [← h2]
      by_cases hc : (decide (pp s < pp (fz g n s)) && g s) = true
      · rw [if_pos hc, if_pos hc]
        exact ⟨rfl, rfl⟩
      · rw [if_neg hc, if_neg hc]
        exact ⟨h1, h2⟩
    · simp only [fz, wl]
      rw [h1, h2, pp_all (by omega)]
      by_cases hsa : s = 2 ^ n - 1
      · left
        rw [if_neg (by rw [hsa, pp_all (by omega)]; simp), if_pos (by rw [hsa, pp_all (by omega), hg]; simp; omega), hsa]
        exact ⟨rfl, rfl⟩
      · have hlt2 := pp_full (s := s) (n := n) (by omega) (by omega) hsa
        by_cases hgs : g s = true
        · left
          rw [if_pos (by simp [hgs, hlt2]), if_pos (by simp [hgs]; omega)]
          exact ⟨rfl, rfl⟩
        · right
          rw [if_neg (by simp [hgs]), if_neg (by simp [hgs])]
          exact ⟨rfl, h2, by omega⟩
theorem pair_twice : Pair m_S_twice m_M_twice [] := by
  intro σ τ hR
  obtain ⟨P, hC, hM, hV, hK⟩ := hR.2.2.1
  have h7 := hV.1
  have hp := Nat.one_le_two_pow (n := pn P)
  have h128 := p2_7 h7
  have hg : ∃ g : Nat → Bool, g = fun s => !rg (er (edP P) s) (pn P) := ⟨_, rfl⟩
  obtain ⟨g, hg⟩ := hg
  have hgall : g (2 ^ pn P - 1) = true := by
    rw [hg]
    simp only [Bool.not_eq_true']
    apply anb_no.mpr
    intro i hi
    cases hw : wr (er (edP P) (2 ^ pn P - 1)) (pn P) i i
    · rfl
    · obtain ⟨p, a, _⟩ := wr_last (Nat.le_refl _) hw
      simp only [er, tT, Nat.testBit_two_pow_sub_one, hi, decide_true, Bool.not_true, Bool.false_and] at a
      exact absurd a (by decide)
  have hmain := fz_wl h7 hgall (2 ^ pn P) (Nat.le_refl _)
  have hmain : fz g (pn P) (2 ^ pn P) = (wl g 8 (2 ^ pn P)).1 ∧ pp (fz g (pn P) (2 ^ pn P)) = (wl g 8 (2 ^ pn P)).2 := by
    rcases hmain with h | h
    · exact h
    · omega
  have model : ∀ (σ4 : xS) (Q : xQ), PM σ4 P → (∀ σ5, Ag [85, 86] σ4 σ5 → Q (some (.int (nI (wl g 8 (2 ^ pn P)).2))) x_g (m_told σ5 (nI (wl g 8 (2 ^ pn P)).1)) τ) → Ev m_M_twice 0 (x_loc [.ref 67] m_M_twice.2.2.1) [] x_g σ4 τ Q := by
    intro σ4 Q hM4 hq
    have esh : ∀ σ5 : xS, Ag [85, 86] σ4 σ5 → (1 : Int32) <<< (σ5 67 10 &&& 31) = nI (2 ^ pn P) := fun σ5 h => by
      rw [h 67 (by decide), hM4.1]
      exact q_shl1 (by omega)
    refine ev_go 100 [7] ?_
    refine ev_lj (α := Value) (M := m_M_twice) (pc := 7) (st := []) (g := x_g) (Q := Q) (τ := τ) (2 ^ pn P) (fun s u => [.ref 67, .int (nI (wl g 8 s).2), .int (nI (wl g 8 s).1), .int (nI s), u]) (fun s σ' => Ag [85, 86] σ4 σ') (fun s hs u σ5 hI kk => ?_) (fun u σ5 hI => ?_) .null σ4 Ag.refl
    · have hM5 := hM4.ag hI (by decide)
      have hwl := wl_lt (g := g) (b := 8) s
      have hps := pp_le (s := s) (n := pn P) (by omega) (by omega)
      refine ev_go 100 [7] ?_
      refine br_f (by rw [esh σ5 hI]; exact nI_ge hs (by omega)) ?_
      refine e_M_bits σ5 τ (by omega) _ ?_
      by_cases hlt : pp s < (wl g 8 s).2
      · refine br_f (nI_ge hlt (by omega)) ?_
        refine e_M_findAhead σ5 τ hM5 hV (a := 0) (b := s) (by decide) (by omega) hV.2.2.1 hM5.2.2.1 _ (fun σ6 h6 => ?_)
        rw [ed_er] at h6
        have hM6 := hM5.ag h6.1 (by decide)
        refine e_M_isRing σ6 τ h7 hM6.1 (h6.2.mono h7) _ (fun σ8 h8 => ?_)
        have hA8 : Ag [85, 86] σ4 σ8 := (hI.trans (h6.1.mono (by decide))).trans (h8.1.mono (by decide))
        by_cases hr : rg (er (edP P) s) (pn P) = true
        · refine bn_t (xb1 hr) ?_
          refine br_t rfl ?_
          refine br_t rfl ?_
          show Ev m_M_twice 7 [.ref 67, .int (nI (wl g 8 s).2), .int (nI (wl g 8 s).1), .int (nI s + 1), .int 0] [] x_g σ8 τ Q
          rw [nI_1]
          have := kk (.int 0) σ8 hA8
          simp only [wl] at this
          rw [if_neg (by rw [hg]; simp [hr])] at this
          exact this
        · refine bn_f (xb0 hr) ?_
          refine br_f (by decide) ?_
          refine br_f (by decide) ?_
          refine e_M_bits σ8 τ (by omega) _ ?_
          show Ev m_M_twice 7 [.ref 67, .int (nI (pp s)), .int (nI s), .int (nI s + 1), .int 1] [] x_g σ8 τ Q
          rw [nI_1]
          have := kk (.int 1) σ8 hA8
          simp only [wl] at this
          have hgs : g s = true := by rw [hg]; simp [hr]
          rw [if_pos (by simp [hgs, hlt])] at this
          exact this
      · refine br_t (nI_le (by omega) (by omega)) ?_
        show Ev m_M_twice 7 [.ref 67, .int (nI (wl g 8 s).2), .int (nI (wl g 8 s).1), .int (nI s + 1), u] [] x_g σ5 τ Q
        rw [nI_1]
        have := kk u σ5 hI
        simp only [wl] at this
        rw [if_neg (by simp [hlt])] at this
        exact this
    · refine ev_go 100 [7] ?_
      refine br_t (by rw [esh σ5 hI]; exact nI_le (Nat.le_refl _) (by omega)) ?_
      refine e_M_tells σ5 τ _ _ _ ?_
      exact hq σ5 hI
  refine ev_go 100 [27] ?_
  refine e_G_takeAll σ τ hC hV _ (fun σ1 h1 => ?_)
  have hC1 := hC.ag h1.1 (by decide)
  have hM1 := hM.ag h1.1 (by decide)
  have hG1 : Gr σ1 (pn P) (edP P) := ⟨h1.2.1, h1.2.2⟩
  have cls : ∀ Q : xQ, Q (some (.int (nI (pp (fz g (pn P) (2 ^ pn P)))))) x_g (c_told σ1 (nI (fz g (pn P) (2 ^ pn P)))) τ → Ev m_S_twice 27 [.ref 0, .int (nI (2 ^ pn P - 1)), .int (nI (2 ^ pn P - 1)), .int (nI 0)] [] x_g σ1 τ Q := by
    intro Q hq
    refine ev_iter (M := m_S_twice) (pc := 27) (st := []) (g := x_g) (Q := Q) (2 ^ pn P) (fun s => ([.ref 0, .int (nI (2 ^ pn P - 1)), .int (nI (fz g (pn P) s)), .int (nI s)], σ1, τ)) (fun s hs kk => ?_) ?_
    · dsimp only at kk ⊢
      have hfz := fz_lt (g := g) (n := pn P) s (by omega)
      have hps := pp_le (s := s) (n := pn P) (by omega) (by omega)
      have hpf := pp_le (s := fz g (pn P) s) (n := pn P) hfz (by omega)
      refine ev_go 100 [27] ?_
      refine br_f (nI_nlt (by omega) (by omega)) ?_
      refine e_J_bitCount σ1 τ (by omega) _ ?_
      refine e_J_bitCount σ1 τ (by omega) _ ?_
      by_cases hlt : pp s < pp (fz g (pn P) s)
      · refine br_f (nI_ge hlt (by omega)) ?_
        have hv : nI (2 ^ pn P - 1) &&& (nI s ^^^ (-1)) = nI (bs (tT s) (pn P)) := by rw [q_nd, nd_tT hs]
        cases hr : rg (er (edP P) s) (pn P)
        · obtain ⟨t, a, b, c⟩ := pl_all hr (tT s)
          refine e_G_layersOf_ok σ1 τ h7 hG1.1 hG1.2 (tT s) hv (t := t) (by omega) ?_ ?_ _ ?_
          · rw [bs_ext (fun x _ => pl_er t x)]
            exact b
          · intro t' ht'
            rw [bs_ext (fun x _ => pl_er t' x)]
            exact c t' ht'
          · refine br_f (nI_pos (by omega)) ?_
            show Ev m_S_twice 27 [.ref 0, .int (nI (2 ^ pn P - 1)), .int (nI s), .int (nI s + 1)] [] x_g σ1 τ Q
            rw [nI_1]
            simp only [fz] at kk
            have hgs : g s = true := by rw [hg]; simp [hr]
            rw [if_pos (by simp [hgs, hlt])] at kk
            exact kk
        · refine e_G_layersOf_no σ1 τ h7 hG1.1 hG1.2 (tT s) hv ?_ _ ?_
          · intro t'
            rw [bs_ext (fun x _ => pl_er t' x)]
            refine pl_ring (fun j i hji => ?_) (fun j i hji => ?_) hr t'
            · simp only [er, Bool.and_eq_true] at hji
              exact edP_in hV j i hji.2.2
            · simp only [er, Bool.and_eq_true] at hji
              exact hji.1
          · refine br_t (by decide) ?_
            show Ev m_S_twice 27 [.ref 0, .int (nI (2 ^ pn P - 1)), .int (nI (fz g (pn P) s)), .int (nI s + 1)] [] x_g σ1 τ Q
            rw [nI_1]
            simp only [fz] at kk
            rw [if_neg (by rw [hg]; simp [hr])] at kk
            exact kk
      · refine br_t (nI_le (by omega) (by omega)) ?_
        show Ev m_S_twice 27 [.ref 0, .int (nI (2 ^ pn P - 1)), .int (nI (fz g (pn P) s)), .int (nI s + 1)] [] x_g σ1 τ Q
        rw [nI_1]
        simp only [fz] at kk
        rw [if_neg (by simp [hlt])] at kk
        exact kk
    · dsimp only
      refine ev_go 100 [27] ?_
      refine br_t (nI_lt (by omega) (by omega)) ?_
      refine e_J_bitCount _ τ (by have := fz_lt (g := g) (n := pn P) (2 ^ pn P) (Nat.le_refl _); omega) _ ?_
      exact hq
  have ea : (1 : Int32) <<< (σ1 17 0 &&& 31) - 1 = nI (2 ^ pn P - 1) := by
    rw [hC1.1, q_shl1 (by omega)]
    exact pk_sub (a := 2 ^ pn P) (b := 1) hp
  show Ev m_S_twice 27 [.ref 0, .int ((1 : Int32) <<< (σ1 17 0 &&& 31) - 1), .int ((1 : Int32) <<< (σ1 17 0 &&& 31) - 1), .int 0] [] x_g σ1 τ _
  rw [ea]
  refine cls _ ?_
  refine ⟨rfl, ?_⟩
  refine model _ _ (hM1.ag Ag.ctold (by decide)) (fun σ5 h5 => ?_)
  rw [← hmain.1, ← hmain.2]
  exact ⟨rfl, rfl, ⟨_, rfl⟩, hR.tld h1.1 (by decide) h5 (by decide)⟩
/-- crossings that tell that one of a set went ahead of one outside it -/
def ct (P : xP) (s : Nat) : Nat → Bool := fun k => tl P k && (s.testBit (pu P k) && !s.testBit (po P k))
theorem e_P_tellingOutOf (σ : xS) (τ : xL) {P : xP} (hP : PC σ 17 P) (hV : PV P) {s : Nat} (hs : s < 2 ^ 31) : Rn m_P_tellingOutOf [.ref 17, .int (nI s)] σ τ (some (.int (nI (cnt (ct P s) (pc P))))) σ τ := by
  intro Q h
  have h7 := hV.1
  have h16 := hV.2.1
  refine ev_go 100 [4] ?_
  refine ev_iter (M := m_P_tellingOutOf) (pc := 4) (st := []) (g := x_g) (Q := Q) (pc P) (fun k => ([.ref 17, .int (nI s), .int (nI (cnt (ct P s) k)), .int (nI k)], σ, τ)) (fun k hk kk => ?_) ?_
  · dsimp only at kk ⊢
    obtain ⟨v1, v2, v3⟩ := hV.2.2.2.2 k hk
    have eo : σ 21 (nI k).toNatClampNeg = nI (po P k) := by rw [cl7 (by omega)]; exact (hP.2.2.2.2 k hk).1
    have eu : σ 22 (nI k).toNatClampNeg = nI (pu P k) := by rw [cl7 (by omega)]; exact (hP.2.2.2.2 k hk).2
    have no : ct P s k = false → Ev m_P_tellingOutOf 4 [.ref 17, .int (nI s), .int (nI (cnt (ct P s) k)), .int (nI k + 1)] [] x_g σ τ Q := by
      intro hc
      rw [nI_1]
      simp only [cnt, hc] at kk
      exact kk
    refine ev_go 100 [4] ?_
    refine br_f (by rw [hP.2.1]; exact nI_ge hk (by omega)) ?_
    refine e_P_tells σ τ hP hV hk _ ?_
    by_cases t1 : tl P k = true
    · refine br_f (xb1 t1) ?_
      refine ⟨16, rfl, q_in (by omega) (by decide), ?_⟩
      rw [eu]
      refine e_S_has σ τ hs (by omega) _ ?_
      by_cases t2 : s.testBit (pu P k) = true
      · refine br_f (xb1 t2) ?_
        refine ⟨16, rfl, q_in (by omega) (by decide), ?_⟩
        rw [eo]
        refine e_S_has σ τ hs (by omega) _ ?_
        by_cases t3 : s.testBit (po P k) = true
        · refine bn_t (xb1 t3) ?_
          exact no (by simp [ct, t3])
        · refine bn_f (xb0 t3) ?_
          show Ev m_P_tellingOutOf 4 [.ref 17, .int (nI s), .int (nI (cnt (ct P s) k) + 1), .int (nI k + 1)] [] x_g σ τ Q
          rw [nI_1, nI_1]
          have hc : ct P s k = true := by simp [ct, t1, t2, t3]
          simp only [cnt, if_pos hc] at kk
          exact kk
      · refine br_t (xb0 t2) ?_
        exact no (by simp [ct, t2])
    · refine br_t (xb0 t1) ?_
      exact no (by simp [ct, t1])
  · dsimp only
    refine ev_go 100 [4] ?_
    refine br_t (by rw [hP.2.1]; exact nI_le (Nat.le_refl _) (by omega)) ?_
    exact h
def hz (ok : Nat → Bool) (c : Nat → Nat) (b : Nat) : Nat → Nat
  | 0 => b
  | s + 1 => if ok s = true then min (hz ok c b s) (c s) else hz ok c b s
theorem hz_le {ok : Nat → Bool} {c : Nat → Nat} {b : Nat} : ∀ s, hz ok c b s ≤ b
  | 0 => Nat.le_refl b
  | s + 1 => by
    have := hz_le (ok := ok) (c := c) (b := b) s
    simp only [hz]
    split <;> omega
theorem hz_eq {ok : Nat → Bool} {c : Nat → Nat} (hc : ∀ s, c s ≤ 16) : ∀ s, hz ok c 16 s = hz ok c 17 s ∨ (hz ok c 16 s = 16 ∧ hz ok c 17 s = 17 ∧ ∀ x, x < s → ok x = false)
  | 0 => Or.inr ⟨rfl, rfl, fun x hx => absurd hx (Nat.not_lt_zero x)⟩
  | s + 1 => by
    have h16 := hc s
    simp only [hz]
    by_cases ho : ok s = true
    · left
      rw [if_pos ho, if_pos ho]
      rcases hz_eq hc s with h | ⟨h1, h2, _⟩
      · rw [h]
      · rw [h1, h2]
        omega
    · rw [if_neg ho, if_neg ho]
      rcases hz_eq hc s with h | ⟨h1, h2, h3⟩
      · exact Or.inl h
      · refine Or.inr ⟨h1, h2, fun x hx => ?_⟩
        by_cases e : x = s
        · subst e
          simpa using ho
        · exact h3 x (by omega)
theorem pair_hide (i j : Int32) : Pair m_S_hide m_M_hide [.int i, .int j] := by
  intro σ τ hR
  obtain ⟨P, hC, hM, hV, hK⟩ := hR.2.2.1
  have h7 := hV.1
  have h16 := hV.2.1
  have hp := Nat.one_le_two_pow (n := pn P)
  have h128 := p2_7 h7
  refine ev_go 100 [68] ?_
  refine e_P_areTwo σ τ i j _ ?_
  rw [hC.1]
  by_cases h2 : ((¬ i < 0 ∧ ¬ nI (pn P) ≤ i) ∧ (¬ j < 0 ∧ ¬ nI (pn P) ≤ j) ∧ ¬ i = j)
  · refine bn_t (xb1 h2) ?_
    refine e_G_clear σ τ hV.1 hC.1 _ (fun σ0 h0 => ?_)
    have hC0 := hC.ag h0.1 (by decide)
    refine e_G_addCrossings σ0 τ hC0 hV h0.2.2 _ (fun σ1 h1 => ?_)
    have hA1 : Ag [31, 32] σ σ1 := h0.1.trans (h1.1.mono (by decide))
    have hC1 := hC.ag hA1 (by decide)
    have hM1 := hM.ag hA1 (by decide)
    have he : ∃ e, e = fun j i => eC P (tl P) (pc P) j i := ⟨_, rfl⟩
    obtain ⟨e, he⟩ := he
    have hG1 : GH σ1 (pn P) := h0.2.1.ag h1.1 (by decide)
    have hB1 : Ar σ1 32 7 (fun j => bs (e j) (pn P)) := h1.2.congr (fun j _ => bs_ext (fun i _ => by rw [he]; simp))
    have hein : eIn e (pn P) := fun j i h => by
      rw [he] at h
      exact ⟨(eC_lt hV h).1, (eC_lt hV h).2.1⟩
    have hed : ed P (fT P 0 0) (tT 0) (0 == 1) = e := by
      rw [ed00, he]
      funext j i
      simp [ed]
    have hv : σ1 31 1 = nI (bs (fun _ => true) (pn P)) := by rw [hG1.2, bs_all]
    cases hr : rg e (pn P)
    · obtain ⟨t, a, b, c⟩ := pl_all hr (fun _ => true)
      refine e_G_layersOf_ok σ1 τ hV.1 hG1 hB1 (fun _ => true) hv (by omega) b c _ ?_
      refine br_t (nI_pos' (by omega)) ?_
      obtain ⟨x, y, hx, hy, hxy, rfl, rfl⟩ := (q_two hV.1 i j).mp h2
      have hok : ∃ ok : Nat → Bool, ok = fun s => s.testBit x && !s.testBit y := ⟨_, rfl⟩
      obtain ⟨ok, hok⟩ := hok
      have hcs : ∃ cs : Nat → Nat, cs = fun s => cnt (ct P s) (pc P) := ⟨_, rfl⟩
      obtain ⟨cs, hcs⟩ := hcs
      have hc16 : ∀ s, cs s ≤ 16 := fun s => by rw [hcs]; exact Nat.le_trans (cnt_le _ _) h16
      have hmain : hz ok cs 16 (2 ^ pn P) = hz ok cs 17 (2 ^ pn P) := by
        rcases hz_eq (ok := ok) hc16 (2 ^ pn P) with h | ⟨_, _, h3⟩
        · exact h
        · have := h3 (2 ^ x) (Nat.pow_lt_pow_right (by decide) hx)
          rw [hok] at this
          simp [Nat.testBit_two_pow_self, Nat.testBit_two_pow, hxy] at this
      have model : ∀ (Q : xQ), (∀ σ5, Ag [85, 86] σ1 σ5 → Q (some (.int (nI (hz ok cs 17 (2 ^ pn P))))) x_g σ5 τ) → Ev m_M_hide 0 (x_loc [.ref 67, .int (nI x), .int (nI y)] m_M_hide.2.2.1) [] x_g σ1 τ Q := by
        intro Q hq
        refine ev_go 100 [37] ?_
        refine e_M_arePair σ1 τ hM1 hV _ _ _ ?_
        refine bn_t (xb1 h2) ?_
        refine e_M_findAhead σ1 τ hM1 hV (a := 0) (b := 0) (w := 0) (by decide) (by decide) (by decide) rfl _ (fun σ3 h3 => ?_)
        rw [hed] at h3
        have hM3 := hM1.ag h3.1 (by decide)
        refine e_M_isRing σ3 τ h7 hM3.1 (h3.2.mono h7) _ (fun σ4 h4 => ?_)
        refine br_t (xb0 (by rw [hr]; decide)) ?_
        have hM4 := hM3.ag h4.1 (by decide)
        have esh : (1 : Int32) <<< (σ4 67 10 &&& 31) = nI (2 ^ pn P) := by rw [hM4.1]; exact q_shl1 (by omega)
        refine ev_lj (α := Value × Value) (M := m_M_hide) (pc := 37) (st := []) (g := x_g) (Q := Q) (τ := τ) (2 ^ pn P) (fun s u => [.ref 67, .int (nI x), .int (nI y), .int (nI (hz ok cs 17 s)), .int (nI s), u.1, u.2]) (fun s σ' => σ' = σ4) (fun s hs u σ5 hI kk => ?_) (fun u σ5 hI => ?_) (_, _) σ4 rfl
        · subst hI
          have hzb := hz_le (ok := ok) (c := cs) (b := 17) s
          have hcb := hc16 s
          refine ev_go 100 [54] ?_
          refine br_f (by rw [esh]; exact nI_ge hs (by omega)) ?_
          refine ev_iter (M := m_M_hide) (pc := 54) (st := []) (g := x_g) (Q := Q) (pc P) (fun k => ([.ref 67, .int (nI x), .int (nI y), .int (nI (hz ok cs 17 s)), .int (nI s), .int (nI (cnt (ct P s) k)), .int (nI k)], σ5, τ)) (fun k hk kk2 => ?_) ?_
          · dsimp only at kk2 ⊢
            obtain ⟨v1, v2, v3⟩ := hV.2.2.2.2 k hk
            have eo : σ5 77 (nI k).toNatClampNeg = nI (po P k) := by rw [cl7 (by omega)]; exact (hM4.2.2.2.2 k hk).1
            have eu : σ5 78 (nI k).toNatClampNeg = nI (pu P k) := by rw [cl7 (by omega)]; exact (hM4.2.2.2.2 k hk).2
            have no : ct P s k = false → Ev m_M_hide 54 [.ref 67, .int (nI x), .int (nI y), .int (nI (hz ok cs 17 s)), .int (nI s), .int (nI (cnt (ct P s) k) + 0), .int (nI k + 1)] [] x_g σ5 τ Q := by
              intro hc
              rw [nI_1, Int32.add_zero]
              simp only [cnt, hc] at kk2
              exact kk2
            refine ev_go 100 [54] ?_
            refine br_f (by rw [hM4.2.1]; exact nI_ge hk (by omega)) ?_
            refine e_M_isTelling σ5 τ hM4 hV hk _ ?_
            by_cases t1 : tl P k = true
            · refine br_f (xb1 t1) ?_
              refine ⟨16, rfl, q_in (by omega) (by decide), ?_⟩
              rw [eu]
              refine e_M_has σ5 τ (by omega) (by omega) _ ?_
              by_cases t2 : s.testBit (pu P k) = true
              · refine br_f (xb1 t2) ?_
                refine ⟨16, rfl, q_in (by omega) (by decide), ?_⟩
                rw [eo]
                refine e_M_has σ5 τ (by omega) (by omega) _ ?_
                by_cases t3 : s.testBit (po P k) = true
                · refine bn_t (xb1 t3) ?_
                  exact no (by simp [ct, t3])
                · refine bn_f (xb0 t3) ?_
                  show Ev m_M_hide 54 [.ref 67, .int (nI x), .int (nI y), .int (nI (hz ok cs 17 s)), .int (nI s), .int (nI (cnt (ct P s) k) + 1), .int (nI k + 1)] [] x_g σ5 τ Q
                  rw [nI_1, nI_1]
                  have hc : ct P s k = true := by simp [ct, t1, t2, t3]
                  simp only [cnt, if_pos hc] at kk2
                  exact kk2
              · refine br_t (xb0 t2) ?_
                exact no (by simp [ct, t2])
            · refine br_t (xb0 t1) ?_
              exact no (by simp [ct, t1])
          · dsimp only
            have keep : hz ok cs 17 (s + 1) = hz ok cs 17 s → Ev m_M_hide 37 [.ref 67, .int (nI x), .int (nI y), .int (nI (hz ok cs 17 s)), .int (nI s + 1), .int (nI (cnt (ct P s) (pc P))), .int (nI (pc P))] [] x_g σ5 τ Q := by
              intro hkeep
              rw [nI_1]
              have := kk (.int (nI (cnt (ct P s) (pc P))), .int (nI (pc P))) σ5 rfl
              rw [hkeep] at this
              exact this
            have hcse : cnt (ct P s) (pc P) = cs s := by rw [hcs]
            refine ev_go 100 [37] ?_
            refine br_t (by rw [hM4.2.1]; exact nI_le (Nat.le_refl _) (by omega)) ?_
            refine e_M_has σ5 τ (by omega) (by omega) _ ?_
            by_cases t1 : s.testBit x = true
            · refine br_f (xb1 t1) ?_
              refine e_M_has σ5 τ (by omega) (by omega) _ ?_
              by_cases t2 : s.testBit y = true
              · refine bn_t (xb1 t2) ?_
                exact keep (by simp [hz, hok, t2])
              · refine bn_f (xb0 t2) ?_
                have hoks : ok s = true := by rw [hok]; simp [t1, t2]
                by_cases hlt : cs s < hz ok cs 17 s
                · refine br_f (by rw [hcse]; exact nI_ge hlt (by omega)) ?_
                  show Ev m_M_hide 37 [.ref 67, .int (nI x), .int (nI y), .int (nI (cnt (ct P s) (pc P))), .int (nI s + 1), .int (nI (cnt (ct P s) (pc P))), .int (nI (pc P))] [] x_g σ5 τ Q
                  rw [nI_1, hcse]
                  have := kk (.int (nI (cs s)), .int (nI (pc P))) σ5 rfl
                  simp only [hz, if_pos hoks] at this
                  rw [Nat.min_eq_right (Nat.le_of_lt hlt)] at this
                  exact this
                · refine br_t (by rw [hcse]; exact nI_le (by omega) (by omega)) ?_
                  exact keep (by simp only [hz, if_pos hoks]; omega)
            · refine br_t (xb0 t1) ?_
              exact keep (by simp [hz, hok, t1])
        · subst hI
          refine ev_go 100 [37] ?_
          refine br_t (by rw [esh]; exact nI_le (Nat.le_refl _) (by omega)) ?_
          exact hq σ5 ((h3.1.mono (by decide)).trans (h4.1.mono (by decide)))
      have cls : ∀ Q : xQ, Q (some (.int (nI (hz ok cs 16 (2 ^ pn P))))) x_g σ1 τ → Ev m_S_hide 68 [.ref 0, .int (nI x), .int (nI y), .int (nI 16), .int (nI 0)] [] x_g σ1 τ Q := by
        intro Q hq
        refine ev_iter (M := m_S_hide) (pc := 68) (st := []) (g := x_g) (Q := Q) (2 ^ pn P) (fun s => ([.ref 0, .int (nI x), .int (nI y), .int (nI (hz ok cs 16 s)), .int (nI s)], σ1, τ)) (fun s hs kk => ?_) ?_
        · dsimp only at kk ⊢
          have hzb := hz_le (ok := ok) (c := cs) (b := 16) s
          have hcb := hc16 s
          have hcse : cnt (ct P s) (pc P) = cs s := by rw [hcs]
          have keep : ok s = false → Ev m_S_hide 68 [.ref 0, .int (nI x), .int (nI y), .int (nI (hz ok cs 16 s)), .int (nI s + 1)] [] x_g σ1 τ Q := by
            intro ho
            rw [nI_1]
            simp only [hz, ho] at kk
            exact kk
          refine ev_go 100 [68] ?_
          refine br_f (by rw [hG1.2]; exact nI_nlt (by omega) (by omega)) ?_
          refine e_S_has σ1 τ (by omega) (by omega) _ ?_
          by_cases t1 : s.testBit x = true
          · refine br_f (xb1 t1) ?_
            refine e_S_has σ1 τ (by omega) (by omega) _ ?_
            by_cases t2 : s.testBit y = true
            · refine bn_t (xb1 t2) ?_
              exact keep (by rw [hok]; simp [t2])
            · refine bn_f (xb0 t2) ?_
              have hoks : ok s = true := by rw [hok]; simp [t1, t2]
              refine e_P_tellingOutOf σ1 τ hC1 hV (by omega) _ ?_
              show Ev m_S_hide 68 [.ref 0, .int (nI x), .int (nI y), .int (if nI (cnt (ct P s) (pc P)) < nI (hz ok cs 16 s) then nI (cnt (ct P s) (pc P)) else nI (hz ok cs 16 s)), .int (nI s + 1)] [] x_g σ1 τ Q
              rw [hcse, nI_1]
              simp only [hz, if_pos hoks] at kk
              by_cases hlt : cs s < hz ok cs 16 s
              · rw [if_pos ((nI_ltI (by omega) (by omega)).mpr hlt)]
                rw [Nat.min_eq_right (Nat.le_of_lt hlt)] at kk
                exact kk
              · rw [if_neg (fun z => hlt ((nI_ltI (by omega) (by omega)).mp z))]
                rw [Nat.min_eq_left (by omega)] at kk
                exact kk
          · refine br_t (xb0 t1) ?_
            exact keep (by rw [hok]; simp [t1])
        · dsimp only
          refine ev_go 100 [68] ?_
          refine br_t (by rw [hG1.2]; exact nI_lt (by omega) (by omega)) ?_
          exact hq
      refine cls _ ?_
      refine ⟨rfl, model _ (fun σ5 h5 => ?_)⟩
      rw [hmain]
      exact ⟨rfl, rfl, ⟨_, rfl⟩, (hR.ag hA1 (by decide)).ag h5 (by decide)⟩
    · refine e_G_layersOf_no σ1 τ hV.1 hG1 hB1 (fun _ => true) hv (pl_ring hein (fun _ _ _ => rfl) hr) _ ?_
      refine br_f (by decide) ?_
      refine e_S_refuse σ1 τ 4 in4 _ ?_
      refine ⟨rfl, ?_⟩
      have hM2 := hM1.ag (Ag.cref (f := 4)) (by decide)
      refine ev_go 100 [] ?_
      refine e_M_arePair _ τ hM2 hV _ _ _ ?_
      refine bn_t (xb1 h2) ?_
      refine e_M_findAhead _ τ hM2 hV (a := 0) (b := 0) (w := 0) (by decide) (by decide) (by decide) rfl _ (fun σ3 h3 => ?_)
      rw [hed] at h3
      have hM3 := hM2.ag h3.1 (by decide)
      refine e_M_isRing σ3 τ h7 hM3.1 (h3.2.mono h7) _ (fun σ4 h4 => ?_)
      refine br_f (xb1 hr) ?_
      refine e_M_finds σ4 τ 4 in4 _ ?_
      exact ⟨rfl, rfl, ⟨_, rfl⟩, hR.fnd hA1 (by decide) (f := 4) (by decide) (L2 := [85, 86]) ((h3.1.mono (by decide)).trans (h4.1.mono (by decide))) (by decide)⟩
  · refine bn_f (xb0 h2) ?_
    refine ⟨rfl, ?_⟩
    refine ev_go 100 [] ?_
    refine e_M_arePair σ τ hM hV _ _ _ ?_
    refine bn_f (xb0 h2) ?_
    exact ⟨rfl, rfl, ⟨_, rfl⟩, hR⟩
