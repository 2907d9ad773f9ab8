theorem x_tab_cok : x_allI x_cok 0 x_tab = true := sorry
theorem x_tab_ok : ∀ M ∈ x_tab, x_okM M = true := sorry
theorem ok_L_law (b L : Nat) (xs : Nat → Int32) : x_okM (m_L_law b L xs) = true := sorry
