theorem okl_12 : t_L_law_12.all (x_okr (226, 8, 4, 9, 322, 600000, 7302250)) = true := by decide +kernel
theorem okl_13 : t_L_law_13.all (x_okr (226, 8, 4, 9, 322, 600000, 7302250)) = true := by decide +kernel
theorem okl_14 : t_L_law_14.all (x_okr (226, 8, 4, 9, 322, 600000, 7302250)) = true := by decide +kernel
theorem okl_15 : t_L_law_15.all (x_okr (226, 8, 4, 9, 322, 600000, 7302250)) = true := by decide +kernel
theorem okl_16 : t_L_law_16.all (x_okr (226, 8, 4, 9, 322, 600000, 7302250)) = true := by decide +kernel
theorem okl_17 : t_L_law_17.all (x_okr (226, 8, 4, 9, 322, 600000, 7302250)) = true := by decide +kernel
theorem okl_18 : t_L_law_18.all (x_okr (226, 8, 4, 9, 322, 600000, 7302250)) = true := by decide +kernel
theorem okl_19 : t_L_law_19.all (x_okr (226, 8, 4, 9, 322, 600000, 7302250)) = true := by decide +kernel
theorem okl_20 : t_L_law_20.all (x_okr (226, 8, 4, 9, 322, 600000, 7302250)) = true := by decide +kernel
theorem okl_21 : t_L_law_21.all (x_okr (226, 8, 4, 9, 322, 600000, 7302250)) = true := by decide +kernel
theorem okl_22 : t_L_law_22.all (x_okr (226, 8, 4, 9, 322, 600000, 7302250)) = true := by decide +kernel
theorem okl_23 : t_L_law_23.all (x_okr (226, 8, 4, 9, 322, 600000, 7302250)) = true := by decide +kernel
theorem ok_L_law (b L : Nat) (xs : Nat → Int32) : x_okM (m_L_law b L xs) = true := by
  show t_L_law.all (x_okr (226, 8, 4, 9, 322, 600000, 7302250)) = true
  simp only [t_L_law, List.all_append, Bool.and_eq_true]
  exact ⟨okl_0, okl_1, okl_2, okl_3, okl_4, okl_5, okl_6, okl_7, okl_8, okl_9, okl_10, okl_11, okl_12, okl_13, okl_14, okl_15, okl_16, okl_17, okl_18, okl_19, okl_20, okl_21, okl_22, okl_23⟩
