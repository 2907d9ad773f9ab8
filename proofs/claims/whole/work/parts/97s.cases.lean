/-! THE LAW'S CASES -/
/-- what is left to show at a case of the law -/
def lcs (b L : Nat) (xs : Nat → Int32) (k pc : Nat) (Q : xQ) : Prop := ∀ σ τ, Rel σ τ → Ev (m_L_law b L xs) pc [.retAddr b, .ref 0, .ref 67, .int (nI k)] [] x_gl σ τ Q
set_option maxRecDepth 16384 in
theorem lc_row {b L : Nat} {xs : Nat → Int32} {k : Nat} {Q : xQ} (hk : k + 6 ≤ L) (hL : L ≤ 3072) (kk : lcs b L xs k 1423 Q) : lcs b L xs k 232 Q := by
  intro σ τ hR
  refine ev_go 100 [1423] ?_
  refine ⟨⟨rfl, rfl, lin (d := 1) hk hL (by decide) rfl⟩, ?_⟩
  refine ⟨⟨rfl, rfl, lin (d := 2) hk hL (by decide) rfl⟩, ?_⟩
  refine (pair_int (pair_row _ _) rfl hR).mono ?_
  rintro _ _ σ1 τ1 ⟨x, rfl, rfl, hE⟩
  refine ⟨⟨rfl, rfl, lin (d := 1) hk hL (by decide) rfl⟩, ?_⟩
  refine ⟨⟨rfl, rfl, lin (d := 2) hk hL (by decide) rfl⟩, ?_⟩
  refine hE.mono ?_
  rintro _ _ σ2 τ2 ⟨rfl, rfl, hR2⟩
  refine br_t rfl ?_
  exact kk σ2 τ2 hR2
set_option maxRecDepth 16384 in
theorem lc_lay {b L : Nat} {xs : Nat → Int32} {k : Nat} {Q : xQ} (hk : k + 6 ≤ L) (hL : L ≤ 3072) (kk : lcs b L xs k 1423 Q) : lcs b L xs k 265 Q := by
  intro σ τ hR
  refine ev_go 100 [1423] ?_
  refine ⟨⟨rfl, rfl, lin (d := 1) hk hL (by decide) rfl⟩, ?_⟩
  refine ⟨⟨rfl, rfl, lin (d := 2) hk hL (by decide) rfl⟩, ?_⟩
  refine ⟨⟨rfl, rfl, lin (d := 3) hk hL (by decide) rfl⟩, ?_⟩
  refine (pair_int (pair_lay _ _ _) rfl hR).mono ?_
  rintro _ _ σ1 τ1 ⟨x, rfl, rfl, hE⟩
  refine ⟨⟨rfl, rfl, lin (d := 1) hk hL (by decide) rfl⟩, ?_⟩
  refine ⟨⟨rfl, rfl, lin (d := 2) hk hL (by decide) rfl⟩, ?_⟩
  refine ⟨⟨rfl, rfl, lin (d := 3) hk hL (by decide) rfl⟩, ?_⟩
  refine hE.mono ?_
  rintro _ _ σ2 τ2 ⟨rfl, rfl, hR2⟩
  refine br_t rfl ?_
  exact kk σ2 τ2 hR2
set_option maxRecDepth 16384 in
theorem lc_at {b L : Nat} {xs : Nat → Int32} {k : Nat} {Q : xQ} (hk : k + 6 ≤ L) (hL : L ≤ 3072) (kk : lcs b L xs k 1423 Q) : lcs b L xs k 308 Q := by
  intro σ τ hR
  refine ev_go 100 [1423] ?_
  refine ⟨⟨rfl, rfl, lin (d := 1) hk hL (by decide) rfl⟩, ?_⟩
  refine ⟨⟨rfl, rfl, lin (d := 2) hk hL (by decide) rfl⟩, ?_⟩
  refine (pair_int (pair_at _ _) rfl hR).mono ?_
  rintro _ _ σ1 τ1 ⟨x, rfl, rfl, hE⟩
  refine ⟨⟨rfl, rfl, lin (d := 1) hk hL (by decide) rfl⟩, ?_⟩
  refine ⟨⟨rfl, rfl, lin (d := 2) hk hL (by decide) rfl⟩, ?_⟩
  refine hE.mono ?_
  rintro _ _ σ2 τ2 ⟨rfl, rfl, hR2⟩
  refine br_t rfl ?_
  exact kk σ2 τ2 hR2
set_option maxRecDepth 16384 in
theorem lc_tear {b L : Nat} {xs : Nat → Int32} {k : Nat} {Q : xQ} (hk : k + 6 ≤ L) (hL : L ≤ 3072) (kk : lcs b L xs k 1423 Q) : lcs b L xs k 341 Q := by
  intro σ τ hR
  refine ev_go 100 [1423] ?_
  refine ⟨⟨rfl, rfl, lin (d := 1) hk hL (by decide) rfl⟩, ?_⟩
  refine (pair_int (pair_tear _) rfl hR).mono ?_
  rintro _ _ σ1 τ1 ⟨x, rfl, rfl, hE⟩
  refine ⟨⟨rfl, rfl, lin (d := 1) hk hL (by decide) rfl⟩, ?_⟩
  refine hE.mono ?_
  rintro _ _ σ2 τ2 ⟨rfl, rfl, hR2⟩
  refine br_t rfl ?_
  exact kk σ2 τ2 hR2
set_option maxRecDepth 16384 in
theorem lc_copy {b L : Nat} {xs : Nat → Int32} {k : Nat} {Q : xQ} (hk : k + 6 ≤ L) (hL : L ≤ 3072) (kk : lcs b L xs k 1423 Q) : lcs b L xs k 364 Q := by
  intro σ τ hR
  refine ev_go 100 [1423] ?_
  refine ⟨⟨rfl, rfl, lin (d := 1) hk hL (by decide) rfl⟩, ?_⟩
  refine ⟨⟨rfl, rfl, lin (d := 2) hk hL (by decide) rfl⟩, ?_⟩
  refine ⟨⟨rfl, rfl, lin (d := 3) hk hL (by decide) rfl⟩, ?_⟩
  refine ⟨⟨rfl, rfl, lin (d := 4) hk hL (by decide) rfl⟩, ?_⟩
  refine ⟨⟨rfl, rfl, lin (d := 5) hk hL (by decide) rfl⟩, ?_⟩
  refine (pair_int (pair_copy _ _ _ _ _) rfl hR).mono ?_
  rintro _ _ σ1 τ1 ⟨x, rfl, rfl, hE⟩
  refine ⟨⟨rfl, rfl, lin (d := 1) hk hL (by decide) rfl⟩, ?_⟩
  refine ⟨⟨rfl, rfl, lin (d := 2) hk hL (by decide) rfl⟩, ?_⟩
  refine ⟨⟨rfl, rfl, lin (d := 3) hk hL (by decide) rfl⟩, ?_⟩
  refine ⟨⟨rfl, rfl, lin (d := 4) hk hL (by decide) rfl⟩, ?_⟩
  refine ⟨⟨rfl, rfl, lin (d := 5) hk hL (by decide) rfl⟩, ?_⟩
  refine hE.mono ?_
  rintro _ _ σ2 τ2 ⟨rfl, rfl, hR2⟩
  refine br_t rfl ?_
  exact kk σ2 τ2 hR2
set_option maxRecDepth 16384 in
theorem lc_mean {b L : Nat} {xs : Nat → Int32} {k : Nat} {Q : xQ} (hk : k + 6 ≤ L) (hL : L ≤ 3072) (kk : lcs b L xs k 1423 Q) : lcs b L xs k 427 Q := by
  intro σ τ hR
  refine ev_go 100 [1423] ?_
  refine ⟨⟨rfl, rfl, lin (d := 1) hk hL (by decide) rfl⟩, ?_⟩
  refine (pair_int (pair_mean _) rfl hR).mono ?_
  rintro _ _ σ1 τ1 ⟨x, rfl, rfl, hE⟩
  refine ⟨⟨rfl, rfl, lin (d := 1) hk hL (by decide) rfl⟩, ?_⟩
  refine hE.mono ?_
  rintro _ _ σ2 τ2 ⟨rfl, rfl, hR2⟩
  refine br_t rfl ?_
  exact kk σ2 τ2 hR2
set_option maxRecDepth 16384 in
theorem lc_text {b L : Nat} {xs : Nat → Int32} {k : Nat} {Q : xQ} (hk : k + 6 ≤ L) (hL : L ≤ 3072) (kk : lcs b L xs k 1423 Q) : lcs b L xs k 450 Q := by
  intro σ τ hR
  refine ev_go 100 [1423] ?_
  refine ⟨⟨rfl, rfl, lin (d := 1) hk hL (by decide) rfl⟩, ?_⟩
  refine ⟨⟨rfl, rfl, lin (d := 2) hk hL (by decide) rfl⟩, ?_⟩
  refine (pair_int (pair_text _ _) rfl hR).mono ?_
  rintro _ _ σ1 τ1 ⟨x, rfl, rfl, hE⟩
  refine ⟨⟨rfl, rfl, lin (d := 1) hk hL (by decide) rfl⟩, ?_⟩
  refine ⟨⟨rfl, rfl, lin (d := 2) hk hL (by decide) rfl⟩, ?_⟩
  refine hE.mono ?_
  rintro _ _ σ2 τ2 ⟨rfl, rfl, hR2⟩
  refine br_t rfl ?_
  exact kk σ2 τ2 hR2
set_option maxRecDepth 16384 in
theorem lc_put {b L : Nat} {xs : Nat → Int32} {k : Nat} {Q : xQ} (hk : k + 6 ≤ L) (hL : L ≤ 3072) (kk : lcs b L xs k 1423 Q) : lcs b L xs k 483 Q := by
  intro σ τ hR
  refine ev_go 100 [1423] ?_
  refine ⟨⟨rfl, rfl, lin (d := 1) hk hL (by decide) rfl⟩, ?_⟩
  refine ⟨⟨rfl, rfl, lin (d := 2) hk hL (by decide) rfl⟩, ?_⟩
  refine ⟨⟨rfl, rfl, lin (d := 3) hk hL (by decide) rfl⟩, ?_⟩
  refine (pair_int (pair_put _ _ _) rfl hR).mono ?_
  rintro _ _ σ1 τ1 ⟨x, rfl, rfl, hE⟩
  refine ⟨⟨rfl, rfl, lin (d := 1) hk hL (by decide) rfl⟩, ?_⟩
  refine ⟨⟨rfl, rfl, lin (d := 2) hk hL (by decide) rfl⟩, ?_⟩
  refine ⟨⟨rfl, rfl, lin (d := 3) hk hL (by decide) rfl⟩, ?_⟩
  refine hE.mono ?_
  rintro _ _ σ2 τ2 ⟨rfl, rfl, hR2⟩
  refine br_t rfl ?_
  exact kk σ2 τ2 hR2
set_option maxRecDepth 16384 in
theorem lc_fault {b L : Nat} {xs : Nat → Int32} {k : Nat} {Q : xQ} (hk : k + 6 ≤ L) (hL : L ≤ 3072) (kk : lcs b L xs k 1423 Q) : lcs b L xs k 526 Q := by
  intro σ τ hR
  refine ev_go 100 [1423] ?_
  refine ⟨⟨rfl, rfl, lin (d := 1) hk hL (by decide) rfl⟩, ?_⟩
  refine (pair_int (pair_fault _) rfl hR).mono ?_
  rintro _ _ σ1 τ1 ⟨x, rfl, rfl, hE⟩
  refine ⟨⟨rfl, rfl, lin (d := 1) hk hL (by decide) rfl⟩, ?_⟩
  refine hE.mono ?_
  rintro _ _ σ2 τ2 ⟨rfl, rfl, hR2⟩
  refine br_t rfl ?_
  exact kk σ2 τ2 hR2
set_option maxRecDepth 16384 in
theorem lc_pass {b L : Nat} {xs : Nat → Int32} {k : Nat} {Q : xQ} (hk : k + 6 ≤ L) (hL : L ≤ 3072) (kk : lcs b L xs k 1423 Q) : lcs b L xs k 549 Q := by
  intro σ τ hR
  refine ev_go 100 [1423] ?_
  refine ⟨⟨rfl, rfl, lin (d := 1) hk hL (by decide) rfl⟩, ?_⟩
  refine (pair_int (pair_pass _) rfl hR).mono ?_
  rintro _ _ σ1 τ1 ⟨x, rfl, rfl, hE⟩
  refine ⟨⟨rfl, rfl, lin (d := 1) hk hL (by decide) rfl⟩, ?_⟩
  refine hE.mono ?_
  rintro _ _ σ2 τ2 ⟨rfl, rfl, hR2⟩
  refine br_t rfl ?_
  exact kk σ2 τ2 hR2
set_option maxRecDepth 16384 in
theorem lc_track {b L : Nat} {xs : Nat → Int32} {k : Nat} {Q : xQ} (hk : k + 6 ≤ L) (hL : L ≤ 3072) (kk : lcs b L xs k 1423 Q) : lcs b L xs k 572 Q := by
  intro σ τ hR
  refine ev_go 100 [1423] ?_
  refine ⟨⟨rfl, rfl, lin (d := 1) hk hL (by decide) rfl⟩, ?_⟩
  refine ⟨⟨rfl, rfl, lin (d := 2) hk hL (by decide) rfl⟩, ?_⟩
  refine (pair_int (pair_track _ _) rfl hR).mono ?_
  rintro _ _ σ1 τ1 ⟨x, rfl, rfl, hE⟩
  refine ⟨⟨rfl, rfl, lin (d := 1) hk hL (by decide) rfl⟩, ?_⟩
  refine ⟨⟨rfl, rfl, lin (d := 2) hk hL (by decide) rfl⟩, ?_⟩
  refine hE.mono ?_
  rintro _ _ σ2 τ2 ⟨rfl, rfl, hR2⟩
  refine br_t rfl ?_
  exact kk σ2 τ2 hR2
set_option maxRecDepth 16384 in
theorem lc_crossing {b L : Nat} {xs : Nat → Int32} {k : Nat} {Q : xQ} (hk : k + 6 ≤ L) (hL : L ≤ 3072) (kk : lcs b L xs k 1423 Q) : lcs b L xs k 605 Q := by
  intro σ τ hR
  refine ev_go 100 [1423] ?_
  refine ⟨⟨rfl, rfl, lin (d := 1) hk hL (by decide) rfl⟩, ?_⟩
  refine (pair_int (pair_crossing _) rfl hR).mono ?_
  rintro _ _ σ1 τ1 ⟨x, rfl, rfl, hE⟩
  refine ⟨⟨rfl, rfl, lin (d := 1) hk hL (by decide) rfl⟩, ?_⟩
  refine hE.mono ?_
  rintro _ _ σ2 τ2 ⟨rfl, rfl, hR2⟩
  refine br_t rfl ?_
  exact kk σ2 τ2 hR2
set_option maxRecDepth 16384 in
theorem lc_mark {b L : Nat} {xs : Nat → Int32} {k : Nat} {Q : xQ} (hk : k + 6 ≤ L) (hL : L ≤ 3072) (kk : lcs b L xs k 1423 Q) : lcs b L xs k 628 Q := by
  intro σ τ hR
  refine ev_go 100 [1423] ?_
  refine ⟨⟨rfl, rfl, lin (d := 1) hk hL (by decide) rfl⟩, ?_⟩
  refine ⟨⟨rfl, rfl, lin (d := 2) hk hL (by decide) rfl⟩, ?_⟩
  refine (pair_int (pair_mark _ _) rfl hR).mono ?_
  rintro _ _ σ1 τ1 ⟨x, rfl, rfl, hE⟩
  refine ⟨⟨rfl, rfl, lin (d := 1) hk hL (by decide) rfl⟩, ?_⟩
  refine ⟨⟨rfl, rfl, lin (d := 2) hk hL (by decide) rfl⟩, ?_⟩
  refine hE.mono ?_
  rintro _ _ σ2 τ2 ⟨rfl, rfl, hR2⟩
  refine br_t rfl ?_
  exact kk σ2 τ2 hR2
set_option maxRecDepth 16384 in
theorem lc_wind {b L : Nat} {xs : Nat → Int32} {k : Nat} {Q : xQ} (hk : k + 6 ≤ L) (hL : L ≤ 3072) (kk : lcs b L xs k 1423 Q) : lcs b L xs k 661 Q := by
  intro σ τ hR
  refine ev_go 100 [1423] ?_
  refine ⟨⟨rfl, rfl, lin (d := 1) hk hL (by decide) rfl⟩, ?_⟩
  refine (pair_int (pair_wind _) rfl hR).mono ?_
  rintro _ _ σ1 τ1 ⟨x, rfl, rfl, hE⟩
  refine ⟨⟨rfl, rfl, lin (d := 1) hk hL (by decide) rfl⟩, ?_⟩
  refine hE.mono ?_
  rintro _ _ σ2 τ2 ⟨rfl, rfl, hR2⟩
  refine br_t rfl ?_
  exact kk σ2 τ2 hR2
set_option maxRecDepth 16384 in
theorem lc_fill {b L : Nat} {xs : Nat → Int32} {k : Nat} {Q : xQ} (hk : k + 6 ≤ L) (hL : L ≤ 3072) (kk : lcs b L xs k 1423 Q) : lcs b L xs k 684 Q := by
  intro σ τ hR
  refine ev_go 100 [1423] ?_
  refine ⟨⟨rfl, rfl, lin (d := 1) hk hL (by decide) rfl⟩, ?_⟩
  refine ⟨⟨rfl, rfl, lin (d := 2) hk hL (by decide) rfl⟩, ?_⟩
  refine (pair_int (pair_fill _ _) rfl hR).mono ?_
  rintro _ _ σ1 τ1 ⟨x, rfl, rfl, hE⟩
  refine ⟨⟨rfl, rfl, lin (d := 1) hk hL (by decide) rfl⟩, ?_⟩
  refine ⟨⟨rfl, rfl, lin (d := 2) hk hL (by decide) rfl⟩, ?_⟩
  refine hE.mono ?_
  rintro _ _ σ2 τ2 ⟨rfl, rfl, hR2⟩
  refine br_t rfl ?_
  exact kk σ2 τ2 hR2
set_option maxRecDepth 16384 in
theorem lc_cross {b L : Nat} {xs : Nat → Int32} {k : Nat} {Q : xQ} (hk : k + 6 ≤ L) (hL : L ≤ 3072) (kk : lcs b L xs k 1423 Q) : lcs b L xs k 717 Q := by
  intro σ τ hR
  refine ev_go 100 [1423] ?_
  refine ⟨⟨rfl, rfl, lin (d := 1) hk hL (by decide) rfl⟩, ?_⟩
  refine ⟨⟨rfl, rfl, lin (d := 2) hk hL (by decide) rfl⟩, ?_⟩
  refine (pair_int (pair_cross _ _) rfl hR).mono ?_
  rintro _ _ σ1 τ1 ⟨x, rfl, rfl, hE⟩
  refine ⟨⟨rfl, rfl, lin (d := 1) hk hL (by decide) rfl⟩, ?_⟩
  refine ⟨⟨rfl, rfl, lin (d := 2) hk hL (by decide) rfl⟩, ?_⟩
  refine hE.mono ?_
  rintro _ _ σ2 τ2 ⟨rfl, rfl, hR2⟩
  refine br_t rfl ?_
  exact kk σ2 τ2 hR2
set_option maxRecDepth 16384 in
theorem lc_snow {b L : Nat} {xs : Nat → Int32} {k : Nat} {Q : xQ} (hk : k + 6 ≤ L) (hL : L ≤ 3072) (kk : lcs b L xs k 1423 Q) : lcs b L xs k 750 Q := by
  intro σ τ hR
  refine ev_go 100 [1423] ?_
  refine ⟨⟨rfl, rfl, lin (d := 1) hk hL (by decide) rfl⟩, ?_⟩
  refine (pair_int (pair_snow _) rfl hR).mono ?_
  rintro _ _ σ1 τ1 ⟨x, rfl, rfl, hE⟩
  refine ⟨⟨rfl, rfl, lin (d := 1) hk hL (by decide) rfl⟩, ?_⟩
  refine hE.mono ?_
  rintro _ _ σ2 τ2 ⟨rfl, rfl, hR2⟩
  refine br_t rfl ?_
  exact kk σ2 τ2 hR2
set_option maxRecDepth 16384 in
theorem lc_keep {b L : Nat} {xs : Nat → Int32} {k : Nat} {Q : xQ} (hk : k + 6 ≤ L) (hL : L ≤ 3072) (kk : lcs b L xs k 1423 Q) : lcs b L xs k 773 Q := by
  intro σ τ hR
  refine ev_go 100 [1423] ?_
  refine ⟨⟨rfl, rfl, lin (d := 1) hk hL (by decide) rfl⟩, ?_⟩
  refine (pair_int (pair_keep _) rfl hR).mono ?_
  rintro _ _ σ1 τ1 ⟨x, rfl, rfl, hE⟩
  refine ⟨⟨rfl, rfl, lin (d := 1) hk hL (by decide) rfl⟩, ?_⟩
  refine hE.mono ?_
  rintro _ _ σ2 τ2 ⟨rfl, rfl, hR2⟩
  refine br_t rfl ?_
  exact kk σ2 τ2 hR2
set_option maxRecDepth 16384 in
theorem lc_on {b L : Nat} {xs : Nat → Int32} {k : Nat} {Q : xQ} (hk : k + 6 ≤ L) (hL : L ≤ 3072) (kk : lcs b L xs k 1423 Q) : lcs b L xs k 796 Q := by
  intro σ τ hR
  refine ev_go 100 [1423] ?_
  refine ⟨⟨rfl, rfl, lin (d := 1) hk hL (by decide) rfl⟩, ?_⟩
  refine (pair_int (pair_on _) rfl hR).mono ?_
  rintro _ _ σ1 τ1 ⟨x, rfl, rfl, hE⟩
  refine ⟨⟨rfl, rfl, lin (d := 1) hk hL (by decide) rfl⟩, ?_⟩
  refine hE.mono ?_
  rintro _ _ σ2 τ2 ⟨rfl, rfl, hR2⟩
  refine br_t rfl ?_
  exact kk σ2 τ2 hR2
set_option maxRecDepth 16384 in
theorem lc_ahead {b L : Nat} {xs : Nat → Int32} {k : Nat} {Q : xQ} (hk : k + 6 ≤ L) (hL : L ≤ 3072) (kk : lcs b L xs k 1423 Q) : lcs b L xs k 819 Q := by
  intro σ τ hR
  refine ev_go 100 [1423] ?_
  refine ⟨⟨rfl, rfl, lin (d := 1) hk hL (by decide) rfl⟩, ?_⟩
  refine ⟨⟨rfl, rfl, lin (d := 2) hk hL (by decide) rfl⟩, ?_⟩
  refine (pair_int (pair_ahead _ _) rfl hR).mono ?_
  rintro _ _ σ1 τ1 ⟨x, rfl, rfl, hE⟩
  refine ⟨⟨rfl, rfl, lin (d := 1) hk hL (by decide) rfl⟩, ?_⟩
  refine ⟨⟨rfl, rfl, lin (d := 2) hk hL (by decide) rfl⟩, ?_⟩
  refine hE.mono ?_
  rintro _ _ σ2 τ2 ⟨rfl, rfl, hR2⟩
  refine br_t rfl ?_
  exact kk σ2 τ2 hR2
set_option maxRecDepth 16384 in
theorem lc_orders {b L : Nat} {xs : Nat → Int32} {k : Nat} {Q : xQ} (hk : k + 6 ≤ L) (hL : L ≤ 3072) (kk : lcs b L xs k 1423 Q) : lcs b L xs k 852 Q := by
  intro σ τ hR
  refine ev_go 100 [1423] ?_
  refine (pair_int (pair_orders) rfl hR).mono ?_
  rintro _ _ σ1 τ1 ⟨x, rfl, rfl, hE⟩
  refine hE.mono ?_
  rintro _ _ σ2 τ2 ⟨rfl, rfl, hR2⟩
  refine br_t rfl ?_
  exact kk σ2 τ2 hR2
set_option maxRecDepth 16384 in
theorem lc_first {b L : Nat} {xs : Nat → Int32} {k : Nat} {Q : xQ} (hk : k + 6 ≤ L) (hL : L ≤ 3072) (kk : lcs b L xs k 1423 Q) : lcs b L xs k 865 Q := by
  intro σ τ hR
  refine ev_go 100 [1423] ?_
  refine ⟨⟨rfl, rfl, lin (d := 1) hk hL (by decide) rfl⟩, ?_⟩
  refine (pair_int (pair_first _) rfl hR).mono ?_
  rintro _ _ σ1 τ1 ⟨x, rfl, rfl, hE⟩
  refine ⟨⟨rfl, rfl, lin (d := 1) hk hL (by decide) rfl⟩, ?_⟩
  refine hE.mono ?_
  rintro _ _ σ2 τ2 ⟨rfl, rfl, hR2⟩
  refine br_t rfl ?_
  exact kk σ2 τ2 hR2
set_option maxRecDepth 16384 in
theorem lc_nth {b L : Nat} {xs : Nat → Int32} {k : Nat} {Q : xQ} (hk : k + 6 ≤ L) (hL : L ≤ 3072) (kk : lcs b L xs k 1423 Q) : lcs b L xs k 888 Q := by
  intro σ τ hR
  refine ev_go 100 [1423] ?_
  refine ⟨⟨rfl, rfl, lin (d := 1) hk hL (by decide) rfl⟩, ?_⟩
  refine ⟨⟨rfl, rfl, lin (d := 2) hk hL (by decide) rfl⟩, ?_⟩
  refine (pair_int (pair_nth _ _) rfl hR).mono ?_
  rintro _ _ σ1 τ1 ⟨x, rfl, rfl, hE⟩
  refine ⟨⟨rfl, rfl, lin (d := 1) hk hL (by decide) rfl⟩, ?_⟩
  refine ⟨⟨rfl, rfl, lin (d := 2) hk hL (by decide) rfl⟩, ?_⟩
  refine hE.mono ?_
  rintro _ _ σ2 τ2 ⟨rfl, rfl, hR2⟩
  refine br_t rfl ?_
  exact kk σ2 τ2 hR2
set_option maxRecDepth 16384 in
theorem lc_sure {b L : Nat} {xs : Nat → Int32} {k : Nat} {Q : xQ} (hk : k + 6 ≤ L) (hL : L ≤ 3072) (kk : lcs b L xs k 1423 Q) : lcs b L xs k 921 Q := by
  intro σ τ hR
  refine ev_go 100 [1423] ?_
  refine ⟨⟨rfl, rfl, lin (d := 1) hk hL (by decide) rfl⟩, ?_⟩
  refine ⟨⟨rfl, rfl, lin (d := 2) hk hL (by decide) rfl⟩, ?_⟩
  refine (pair_int (pair_sure _ _) rfl hR).mono ?_
  rintro _ _ σ1 τ1 ⟨x, rfl, rfl, hE⟩
  refine ⟨⟨rfl, rfl, lin (d := 1) hk hL (by decide) rfl⟩, ?_⟩
  refine ⟨⟨rfl, rfl, lin (d := 2) hk hL (by decide) rfl⟩, ?_⟩
  refine hE.mono ?_
  rintro _ _ σ2 τ2 ⟨rfl, rfl, hR2⟩
  refine br_t rfl ?_
  exact kk σ2 τ2 hR2
set_option maxRecDepth 16384 in
theorem lc_odds {b L : Nat} {xs : Nat → Int32} {k : Nat} {Q : xQ} (hk : k + 6 ≤ L) (hL : L ≤ 3072) (kk : lcs b L xs k 1423 Q) : lcs b L xs k 954 Q := by
  intro σ τ hR
  refine ev_go 100 [1423] ?_
  refine ⟨⟨rfl, rfl, lin (d := 1) hk hL (by decide) rfl⟩, ?_⟩
  refine ⟨⟨rfl, rfl, lin (d := 2) hk hL (by decide) rfl⟩, ?_⟩
  refine (pair_int (pair_odds _ _) rfl hR).mono ?_
  rintro _ _ σ1 τ1 ⟨x, rfl, rfl, hE⟩
  refine ⟨⟨rfl, rfl, lin (d := 1) hk hL (by decide) rfl⟩, ?_⟩
  refine ⟨⟨rfl, rfl, lin (d := 2) hk hL (by decide) rfl⟩, ?_⟩
  refine hE.mono ?_
  rintro _ _ σ2 τ2 ⟨rfl, rfl, hR2⟩
  refine br_t rfl ?_
  exact kk σ2 τ2 hR2
set_option maxRecDepth 16384 in
theorem lc_place {b L : Nat} {xs : Nat → Int32} {k : Nat} {Q : xQ} (hk : k + 6 ≤ L) (hL : L ≤ 3072) (kk : lcs b L xs k 1423 Q) : lcs b L xs k 987 Q := by
  intro σ τ hR
  refine ev_go 100 [1423] ?_
  refine ⟨⟨rfl, rfl, lin (d := 1) hk hL (by decide) rfl⟩, ?_⟩
  refine (pair_int (pair_place _) rfl hR).mono ?_
  rintro _ _ σ1 τ1 ⟨x, rfl, rfl, hE⟩
  refine ⟨⟨rfl, rfl, lin (d := 1) hk hL (by decide) rfl⟩, ?_⟩
  refine hE.mono ?_
  rintro _ _ σ2 τ2 ⟨rfl, rfl, hR2⟩
  refine br_t rfl ?_
  exact kk σ2 τ2 hR2
set_option maxRecDepth 16384 in
theorem lc_judge {b L : Nat} {xs : Nat → Int32} {k : Nat} {Q : xQ} (hk : k + 6 ≤ L) (hL : L ≤ 3072) (kk : lcs b L xs k 1423 Q) : lcs b L xs k 1010 Q := by
  intro σ τ hR
  refine ev_go 100 [1423] ?_
  refine ⟨⟨rfl, rfl, lin (d := 1) hk hL (by decide) rfl⟩, ?_⟩
  refine (pair_int (pair_judge _) rfl hR).mono ?_
  rintro _ _ σ1 τ1 ⟨x, rfl, rfl, hE⟩
  refine ⟨⟨rfl, rfl, lin (d := 1) hk hL (by decide) rfl⟩, ?_⟩
  refine hE.mono ?_
  rintro _ _ σ2 τ2 ⟨rfl, rfl, hR2⟩
  refine br_t rfl ?_
  exact kk σ2 τ2 hR2
set_option maxRecDepth 16384 in
theorem lc_meet {b L : Nat} {xs : Nat → Int32} {k : Nat} {Q : xQ} (hk : k + 6 ≤ L) (hL : L ≤ 3072) (kk : lcs b L xs k 1423 Q) : lcs b L xs k 1033 Q := by
  intro σ τ hR
  refine ev_go 100 [1423] ?_
  refine ⟨⟨rfl, rfl, lin (d := 1) hk hL (by decide) rfl⟩, ?_⟩
  refine ⟨⟨rfl, rfl, lin (d := 2) hk hL (by decide) rfl⟩, ?_⟩
  refine (pair_int (pair_meet _ _) rfl hR).mono ?_
  rintro _ _ σ1 τ1 ⟨x, rfl, rfl, hE⟩
  refine ⟨⟨rfl, rfl, lin (d := 1) hk hL (by decide) rfl⟩, ?_⟩
  refine ⟨⟨rfl, rfl, lin (d := 2) hk hL (by decide) rfl⟩, ?_⟩
  refine hE.mono ?_
  rintro _ _ σ2 τ2 ⟨rfl, rfl, hR2⟩
  refine br_t rfl ?_
  exact kk σ2 τ2 hR2
set_option maxRecDepth 16384 in
theorem lc_chain {b L : Nat} {xs : Nat → Int32} {k : Nat} {Q : xQ} (hk : k + 6 ≤ L) (hL : L ≤ 3072) (kk : lcs b L xs k 1423 Q) : lcs b L xs k 1066 Q := by
  intro σ τ hR
  refine ev_go 100 [1423] ?_
  refine ⟨⟨rfl, rfl, lin (d := 1) hk hL (by decide) rfl⟩, ?_⟩
  refine (pair_int (pair_chain _) rfl hR).mono ?_
  rintro _ _ σ1 τ1 ⟨x, rfl, rfl, hE⟩
  refine ⟨⟨rfl, rfl, lin (d := 1) hk hL (by decide) rfl⟩, ?_⟩
  refine hE.mono ?_
  rintro _ _ σ2 τ2 ⟨rfl, rfl, hR2⟩
  refine br_t rfl ?_
  exact kk σ2 τ2 hR2
set_option maxRecDepth 16384 in
theorem lc_ring {b L : Nat} {xs : Nat → Int32} {k : Nat} {Q : xQ} (hk : k + 6 ≤ L) (hL : L ≤ 3072) (kk : lcs b L xs k 1423 Q) : lcs b L xs k 1089 Q := by
  intro σ τ hR
  refine ev_go 100 [1423] ?_
  refine ⟨⟨rfl, rfl, lin (d := 1) hk hL (by decide) rfl⟩, ?_⟩
  refine (pair_int (pair_ring _) rfl hR).mono ?_
  rintro _ _ σ1 τ1 ⟨x, rfl, rfl, hE⟩
  refine ⟨⟨rfl, rfl, lin (d := 1) hk hL (by decide) rfl⟩, ?_⟩
  refine hE.mono ?_
  rintro _ _ σ2 τ2 ⟨rfl, rfl, hR2⟩
  refine br_t rfl ?_
  exact kk σ2 τ2 hR2
set_option maxRecDepth 16384 in
theorem lc_wrong {b L : Nat} {xs : Nat → Int32} {k : Nat} {Q : xQ} (hk : k + 6 ≤ L) (hL : L ≤ 3072) (kk : lcs b L xs k 1423 Q) : lcs b L xs k 1112 Q := by
  intro σ τ hR
  refine ev_go 100 [1423] ?_
  refine (pair_int (pair_wrong) rfl hR).mono ?_
  rintro _ _ σ1 τ1 ⟨x, rfl, rfl, hE⟩
  refine hE.mono ?_
  rintro _ _ σ2 τ2 ⟨rfl, rfl, hR2⟩
  refine br_t rfl ?_
  exact kk σ2 τ2 hR2
set_option maxRecDepth 16384 in
theorem lc_twice {b L : Nat} {xs : Nat → Int32} {k : Nat} {Q : xQ} (hk : k + 6 ≤ L) (hL : L ≤ 3072) (kk : lcs b L xs k 1423 Q) : lcs b L xs k 1125 Q := by
  intro σ τ hR
  refine ev_go 100 [1423] ?_
  refine (pair_int (pair_twice) rfl hR).mono ?_
  rintro _ _ σ1 τ1 ⟨x, rfl, rfl, hE⟩
  refine hE.mono ?_
  rintro _ _ σ2 τ2 ⟨rfl, rfl, hR2⟩
  refine br_t rfl ?_
  exact kk σ2 τ2 hR2
set_option maxRecDepth 16384 in
theorem lc_look {b L : Nat} {xs : Nat → Int32} {k : Nat} {Q : xQ} (hk : k + 6 ≤ L) (hL : L ≤ 3072) (kk : lcs b L xs k 1423 Q) : lcs b L xs k 1138 Q := by
  intro σ τ hR
  refine ev_go 100 [1423] ?_
  refine (pair_int (pair_look) rfl hR).mono ?_
  rintro _ _ σ1 τ1 ⟨x, rfl, rfl, hE⟩
  refine hE.mono ?_
  rintro _ _ σ2 τ2 ⟨rfl, rfl, hR2⟩
  refine br_t rfl ?_
  exact kk σ2 τ2 hR2
set_option maxRecDepth 16384 in
theorem lc_hide {b L : Nat} {xs : Nat → Int32} {k : Nat} {Q : xQ} (hk : k + 6 ≤ L) (hL : L ≤ 3072) (kk : lcs b L xs k 1423 Q) : lcs b L xs k 1151 Q := by
  intro σ τ hR
  refine ev_go 100 [1423] ?_
  refine ⟨⟨rfl, rfl, lin (d := 1) hk hL (by decide) rfl⟩, ?_⟩
  refine ⟨⟨rfl, rfl, lin (d := 2) hk hL (by decide) rfl⟩, ?_⟩
  refine (pair_int (pair_hide _ _) rfl hR).mono ?_
  rintro _ _ σ1 τ1 ⟨x, rfl, rfl, hE⟩
  refine ⟨⟨rfl, rfl, lin (d := 1) hk hL (by decide) rfl⟩, ?_⟩
  refine ⟨⟨rfl, rfl, lin (d := 2) hk hL (by decide) rfl⟩, ?_⟩
  refine hE.mono ?_
  rintro _ _ σ2 τ2 ⟨rfl, rfl, hR2⟩
  refine br_t rfl ?_
  exact kk σ2 τ2 hR2
set_option maxRecDepth 16384 in
theorem lc_people {b L : Nat} {xs : Nat → Int32} {k : Nat} {Q : xQ} (hk : k + 6 ≤ L) (hL : L ≤ 3072) (kk : lcs b L xs k 1423 Q) : lcs b L xs k 1184 Q := by
  intro σ τ hR
  refine ev_go 100 [1423] ?_
  refine (pair_int (pair_people) rfl hR).mono ?_
  rintro _ _ σ1 τ1 ⟨x, rfl, rfl, hE⟩
  refine hE.mono ?_
  rintro _ _ σ2 τ2 ⟨rfl, rfl, hR2⟩
  refine br_t rfl ?_
  exact kk σ2 τ2 hR2
set_option maxRecDepth 16384 in
theorem lc_story {b L : Nat} {xs : Nat → Int32} {k : Nat} {Q : xQ} (hk : k + 6 ≤ L) (hL : L ≤ 3072) (kk : lcs b L xs k 1423 Q) : lcs b L xs k 1197 Q := by
  intro σ τ hR
  refine ev_go 100 [1423] ?_
  refine ⟨⟨rfl, rfl, lin (d := 1) hk hL (by decide) rfl⟩, ?_⟩
  refine (pair_int (pair_story _) rfl hR).mono ?_
  rintro _ _ σ1 τ1 ⟨x, rfl, rfl, hE⟩
  refine ⟨⟨rfl, rfl, lin (d := 1) hk hL (by decide) rfl⟩, ?_⟩
  refine hE.mono ?_
  rintro _ _ σ2 τ2 ⟨rfl, rfl, hR2⟩
  refine br_t rfl ?_
  exact kk σ2 τ2 hR2
set_option maxRecDepth 16384 in
theorem lc_hold {b L : Nat} {xs : Nat → Int32} {k : Nat} {Q : xQ} (hk : k + 6 ≤ L) (hL : L ≤ 3072) (kk : lcs b L xs k 1423 Q) : lcs b L xs k 1220 Q := by
  intro σ τ hR
  refine ev_go 100 [1423] ?_
  refine ⟨⟨rfl, rfl, lin (d := 1) hk hL (by decide) rfl⟩, ?_⟩
  refine (pair_int (pair_hold _) rfl hR).mono ?_
  rintro _ _ σ1 τ1 ⟨x, rfl, rfl, hE⟩
  refine ⟨⟨rfl, rfl, lin (d := 1) hk hL (by decide) rfl⟩, ?_⟩
  refine hE.mono ?_
  rintro _ _ σ2 τ2 ⟨rfl, rfl, hR2⟩
  refine br_t rfl ?_
  exact kk σ2 τ2 hR2
set_option maxRecDepth 16384 in
theorem lc_believe {b L : Nat} {xs : Nat → Int32} {k : Nat} {Q : xQ} (hk : k + 6 ≤ L) (hL : L ≤ 3072) (kk : lcs b L xs k 1423 Q) : lcs b L xs k 1243 Q := by
  intro σ τ hR
  refine ev_go 100 [1423] ?_
  refine ⟨⟨rfl, rfl, lin (d := 1) hk hL (by decide) rfl⟩, ?_⟩
  refine (pair_int (pair_believe _) rfl hR).mono ?_
  rintro _ _ σ1 τ1 ⟨x, rfl, rfl, hE⟩
  refine ⟨⟨rfl, rfl, lin (d := 1) hk hL (by decide) rfl⟩, ?_⟩
  refine hE.mono ?_
  rintro _ _ σ2 τ2 ⟨rfl, rfl, hR2⟩
  refine br_t rfl ?_
  exact kk σ2 τ2 hR2
set_option maxRecDepth 16384 in
theorem lc_walks {b L : Nat} {xs : Nat → Int32} {k : Nat} {Q : xQ} (hk : k + 6 ≤ L) (hL : L ≤ 3072) (kk : lcs b L xs k 1423 Q) : lcs b L xs k 1266 Q := by
  intro σ τ hR
  refine ev_go 100 [1423] ?_
  refine ⟨⟨rfl, rfl, lin (d := 1) hk hL (by decide) rfl⟩, ?_⟩
  refine ⟨⟨rfl, rfl, lin (d := 2) hk hL (by decide) rfl⟩, ?_⟩
  refine ⟨⟨rfl, rfl, lin (d := 3) hk hL (by decide) rfl⟩, ?_⟩
  refine (pair_int (pair_walks _ _ _) rfl hR).mono ?_
  rintro _ _ σ1 τ1 ⟨x, rfl, rfl, hE⟩
  refine ⟨⟨rfl, rfl, lin (d := 1) hk hL (by decide) rfl⟩, ?_⟩
  refine ⟨⟨rfl, rfl, lin (d := 2) hk hL (by decide) rfl⟩, ?_⟩
  refine ⟨⟨rfl, rfl, lin (d := 3) hk hL (by decide) rfl⟩, ?_⟩
  refine hE.mono ?_
  rintro _ _ σ2 τ2 ⟨rfl, rfl, hR2⟩
  refine br_t rfl ?_
  exact kk σ2 τ2 hR2
set_option maxRecDepth 16384 in
theorem lc_asked {b L : Nat} {xs : Nat → Int32} {k : Nat} {Q : xQ} (hk : k + 6 ≤ L) (hL : L ≤ 3072) (kk : lcs b L xs k 1423 Q) : lcs b L xs k 1309 Q := by
  intro σ τ hR
  refine ev_go 100 [1423] ?_
  refine (pair_int (pair_asked) rfl hR).mono ?_
  rintro _ _ σ1 τ1 ⟨x, rfl, rfl, hE⟩
  refine hE.mono ?_
  rintro _ _ σ2 τ2 ⟨rfl, rfl, hR2⟩
  refine br_t rfl ?_
  exact kk σ2 τ2 hR2
set_option maxRecDepth 16384 in
theorem lc_upper {b L : Nat} {xs : Nat → Int32} {k : Nat} {Q : xQ} (hk : k + 6 ≤ L) (hL : L ≤ 3072) (kk : lcs b L xs k 1423 Q) : lcs b L xs k 1322 Q := by
  intro σ τ hR
  refine ev_go 100 [1423] ?_
  refine (pair_long (pair_upper) rfl hR).mono ?_
  rintro _ _ σ1 τ1 ⟨x, rfl, rfl, hE⟩
  refine hE.mono ?_
  rintro _ _ σ2 τ2 ⟨rfl, rfl, hR2⟩
  refine br_t ((lg_cmp_eq x x).mpr rfl) ?_
  exact kk σ2 τ2 hR2
set_option maxRecDepth 16384 in
theorem lc_lower {b L : Nat} {xs : Nat → Int32} {k : Nat} {Q : xQ} (hk : k + 6 ≤ L) (hL : L ≤ 3072) (kk : lcs b L xs k 1423 Q) : lcs b L xs k 1336 Q := by
  intro σ τ hR
  refine ev_go 100 [1423] ?_
  refine (pair_long (pair_lower) rfl hR).mono ?_
  rintro _ _ σ1 τ1 ⟨x, rfl, rfl, hE⟩
  refine hE.mono ?_
  rintro _ _ σ2 τ2 ⟨rfl, rfl, hR2⟩
  refine br_t ((lg_cmp_eq x x).mpr rfl) ?_
  exact kk σ2 τ2 hR2
set_option maxRecDepth 16384 in
theorem lc_count {b L : Nat} {xs : Nat → Int32} {k : Nat} {Q : xQ} (hk : k + 6 ≤ L) (hL : L ≤ 3072) (kk : lcs b L xs k 1423 Q) : lcs b L xs k 1350 Q := by
  intro σ τ hR
  refine ev_go 100 [1423] ?_
  refine ⟨⟨rfl, rfl, lin (d := 1) hk hL (by decide) rfl⟩, ?_⟩
  refine (pair_int (pair_count _) rfl hR).mono ?_
  rintro _ _ σ1 τ1 ⟨x, rfl, rfl, hE⟩
  refine ⟨⟨rfl, rfl, lin (d := 1) hk hL (by decide) rfl⟩, ?_⟩
  refine hE.mono ?_
  rintro _ _ σ2 τ2 ⟨rfl, rfl, hR2⟩
  refine br_t rfl ?_
  exact kk σ2 τ2 hR2
set_option maxRecDepth 16384 in
theorem lc_finding {b L : Nat} {xs : Nat → Int32} {k : Nat} {Q : xQ} (hk : k + 6 ≤ L) (hL : L ≤ 3072) (kk : lcs b L xs k 1423 Q) : lcs b L xs k 1373 Q := by
  intro σ τ hR
  refine ev_go 100 [1423] ?_
  refine (pair_int (pair_finding) rfl hR).mono ?_
  rintro _ _ σ1 τ1 ⟨x, rfl, rfl, hE⟩
  refine hE.mono ?_
  rintro _ _ σ2 τ2 ⟨rfl, rfl, hR2⟩
  refine br_t rfl ?_
  exact kk σ2 τ2 hR2
set_option maxRecDepth 16384 in
theorem lc_findings {b L : Nat} {xs : Nat → Int32} {k : Nat} {Q : xQ} (hk : k + 6 ≤ L) (hL : L ≤ 3072) (kk : lcs b L xs k 1423 Q) : lcs b L xs k 1386 Q := by
  intro σ τ hR
  refine ev_go 100 [1423] ?_
  refine ⟨⟨rfl, rfl, lin (d := 1) hk hL (by decide) rfl⟩, ?_⟩
  refine (pair_int (pair_findings _) rfl hR).mono ?_
  rintro _ _ σ1 τ1 ⟨x, rfl, rfl, hE⟩
  refine ⟨⟨rfl, rfl, lin (d := 1) hk hL (by decide) rfl⟩, ?_⟩
  refine hE.mono ?_
  rintro _ _ σ2 τ2 ⟨rfl, rfl, hR2⟩
  refine br_t rfl ?_
  exact kk σ2 τ2 hR2
set_option maxRecDepth 16384 in
theorem lc_digest {b L : Nat} {xs : Nat → Int32} {k : Nat} {Q : xQ} (hk : k + 6 ≤ L) (hL : L ≤ 3072) (kk : lcs b L xs k 1423 Q) : lcs b L xs k 1409 Q := by
  intro σ τ hR
  refine ev_go 100 [1423] ?_
  refine (pair_long (pair_digest) rfl hR).mono ?_
  rintro _ _ σ1 τ1 ⟨x, rfl, rfl, hE⟩
  refine hE.mono ?_
  rintro _ _ σ2 τ2 ⟨rfl, rfl, hR2⟩
  refine br_t ((lg_cmp_eq x x).mpr rfl) ?_
  exact kk σ2 τ2 hR2
