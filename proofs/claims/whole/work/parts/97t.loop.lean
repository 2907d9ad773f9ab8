/-! THE LAW'S LOOP -/
set_option maxRecDepth 16384 in
set_option maxHeartbeats 4000000 in
theorem law_switch {b L : Nat} {xs : Nat → Int32} {k : Nat} {Q : xQ} (hk : k + 6 ≤ L) (hL : L ≤ 3072) (kk : lcs b L xs k 1423 Q) : lcs b L xs k 27 Q := by
  intro σ τ hR
  refine ev_go 100 [232, 265, 308, 341, 364, 427, 450, 483, 526, 549, 572, 605, 628, 661, 684, 717, 750, 773, 796, 819, 852, 865, 888, 921, 954, 987, 1010, 1033, 1066, 1089, 1112, 1125, 1138, 1151, 1184, 1197, 1220, 1243, 1266, 1309, 1322, 1336, 1350, 1373, 1386, 1409, 1423] ?_
  refine ⟨⟨rfl, rfl, (q_in (show k < L by omega) (by omega) : vp_in (nI k) L)⟩, ?_⟩
  refine ⟨fun _ => lc_row hk hL kk σ τ hR, fun _ => ?_⟩
  refine ⟨fun _ => lc_lay hk hL kk σ τ hR, fun _ => ?_⟩
  refine ⟨fun _ => lc_at hk hL kk σ τ hR, fun _ => ?_⟩
  refine ⟨fun _ => lc_tear hk hL kk σ τ hR, fun _ => ?_⟩
  refine ⟨fun _ => lc_copy hk hL kk σ τ hR, fun _ => ?_⟩
  refine ⟨fun _ => lc_mean hk hL kk σ τ hR, fun _ => ?_⟩
  refine ⟨fun _ => lc_text hk hL kk σ τ hR, fun _ => ?_⟩
  refine ⟨fun _ => lc_put hk hL kk σ τ hR, fun _ => ?_⟩
  refine ⟨fun _ => lc_fault hk hL kk σ τ hR, fun _ => ?_⟩
  refine ⟨fun _ => lc_pass hk hL kk σ τ hR, fun _ => ?_⟩
  refine ⟨fun _ => lc_track hk hL kk σ τ hR, fun _ => ?_⟩
  refine ⟨fun _ => lc_crossing hk hL kk σ τ hR, fun _ => ?_⟩
  refine ⟨fun _ => lc_mark hk hL kk σ τ hR, fun _ => ?_⟩
  refine ⟨fun _ => lc_wind hk hL kk σ τ hR, fun _ => ?_⟩
  refine ⟨fun _ => lc_fill hk hL kk σ τ hR, fun _ => ?_⟩
  refine ⟨fun _ => lc_cross hk hL kk σ τ hR, fun _ => ?_⟩
  refine ⟨fun _ => lc_snow hk hL kk σ τ hR, fun _ => ?_⟩
  refine ⟨fun _ => lc_keep hk hL kk σ τ hR, fun _ => ?_⟩
  refine ⟨fun _ => lc_on hk hL kk σ τ hR, fun _ => ?_⟩
  refine ⟨fun _ => lc_ahead hk hL kk σ τ hR, fun _ => ?_⟩
  refine ⟨fun _ => lc_orders hk hL kk σ τ hR, fun _ => ?_⟩
  refine ⟨fun _ => lc_first hk hL kk σ τ hR, fun _ => ?_⟩
  refine ⟨fun _ => lc_nth hk hL kk σ τ hR, fun _ => ?_⟩
  refine ⟨fun _ => lc_sure hk hL kk σ τ hR, fun _ => ?_⟩
  refine ⟨fun _ => lc_odds hk hL kk σ τ hR, fun _ => ?_⟩
  refine ⟨fun _ => lc_place hk hL kk σ τ hR, fun _ => ?_⟩
  refine ⟨fun _ => lc_judge hk hL kk σ τ hR, fun _ => ?_⟩
  refine ⟨fun _ => lc_meet hk hL kk σ τ hR, fun _ => ?_⟩
  refine ⟨fun _ => lc_chain hk hL kk σ τ hR, fun _ => ?_⟩
  refine ⟨fun _ => lc_ring hk hL kk σ τ hR, fun _ => ?_⟩
  refine ⟨fun _ => lc_wrong hk hL kk σ τ hR, fun _ => ?_⟩
  refine ⟨fun _ => lc_twice hk hL kk σ τ hR, fun _ => ?_⟩
  refine ⟨fun _ => lc_look hk hL kk σ τ hR, fun _ => ?_⟩
  refine ⟨fun _ => lc_hide hk hL kk σ τ hR, fun _ => ?_⟩
  refine ⟨fun _ => lc_people hk hL kk σ τ hR, fun _ => ?_⟩
  refine ⟨fun _ => lc_story hk hL kk σ τ hR, fun _ => ?_⟩
  refine ⟨fun _ => lc_hold hk hL kk σ τ hR, fun _ => ?_⟩
  refine ⟨fun _ => lc_believe hk hL kk σ τ hR, fun _ => ?_⟩
  refine ⟨fun _ => lc_walks hk hL kk σ τ hR, fun _ => ?_⟩
  refine ⟨fun _ => lc_asked hk hL kk σ τ hR, fun _ => ?_⟩
  refine ⟨fun _ => lc_upper hk hL kk σ τ hR, fun _ => ?_⟩
  refine ⟨fun _ => lc_lower hk hL kk σ τ hR, fun _ => ?_⟩
  refine ⟨fun _ => lc_count hk hL kk σ τ hR, fun _ => ?_⟩
  refine ⟨fun _ => lc_finding hk hL kk σ τ hR, fun _ => ?_⟩
  refine ⟨fun _ => lc_findings hk hL kk σ τ hR, fun _ => ?_⟩
  refine ⟨fun _ => lc_digest hk hL kk σ τ hR, fun _ => ?_⟩
  exact kk σ τ hR
theorem law_cond {k L : Nat} (hL : L ≤ 3072) (hk : k ≤ 4000) : (Int32.ofNat L - 6 < nI k) ↔ ¬ k + 6 ≤ L := by
  rw [Int32.lt_iff_toInt_lt, nI_toInt (by omega), show (Int32.ofNat L - 6).toInt = (L : Int) - 6 from pk_sub_toInt (a := L) (b := 6) (by omega) (by decide)]
  omega
set_option maxRecDepth 16384 in
theorem law_loop {b L : Nat} {xs : Nat → Int32} (hL : L ≤ 3072) : ∀ (m k : Nat), L ≤ k + m → k ≤ 3100 → lcs b L xs k 18 (fun r _ _ _ => r = some (.int 1)) := by
  intro m
  induction m with
  | zero =>
    intro k hm hk σ τ hR
    refine ev_go 100 [] ?_
    refine ⟨⟨rfl, rfl⟩, ?_⟩
    refine br_t ((law_cond hL (by omega)).mpr (by omega)) ?_
    exact ⟨Or.inr rfl, rfl⟩
  | succ m ih =>
    intro k hm hk σ τ hR
    by_cases h6 : k + 6 ≤ L
    · refine ev_go 100 [27] ?_
      refine ⟨⟨rfl, rfl⟩, ?_⟩
      refine br_f (fun z => (law_cond hL (by omega)).mp z h6) ?_
      refine law_switch h6 hL (fun σ' τ' hR' => ?_) σ τ hR
      refine ev_go 100 [18] ?_
      show Ev (m_L_law b L xs) 18 [.retAddr b, .ref 0, .ref 67, .int (nI k + 6)] [] x_gl σ' τ' _
      rw [show nI k + 6 = nI (k + 6) from nI_add k 6]
      exact ih (k + 6) (by omega) (by omega) σ' τ' hR'
    · refine ev_go 100 [] ?_
      refine ⟨⟨rfl, rfl⟩, ?_⟩
      refine br_t ((law_cond hL (by omega)).mpr h6) ?_
      exact ⟨Or.inr rfl, rfl⟩
