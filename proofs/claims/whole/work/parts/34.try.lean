/-! trial -/
theorem t_days (G : GS) (a1 : Int) (h : wr a1 = a1) (hn : 0 ≤ gi G 0 14 ∧ gi G 0 14 ≤ 29999) (he : gi G 81 0 = gi G 0 14) : ∃ q1 q2 : Int × GS, f_Hall_days G a1 = some q1 ∧ f_Model_days q1.2 a1 = some q2 ∧ q1.1 = q2.1 := by
  unfold f_Hall_days
  by_cases c1 : a1 < 1
  · refine ⟨_, (-1, G), rfl, ?_, ?_⟩ <;> simp [f_Model_days, f_Model_isIn, c1]
  · grind [f_Model_days, f_Model_isIn, wr_of, gi_si, wG, gd]
theorem t_days2 (G : GS) (a1 : Int) (h : wr a1 = a1) (hn : 0 ≤ gi G 0 14 ∧ gi G 0 14 ≤ 29999) (he : gi G 81 0 = gi G 0 14) : ∃ q1 q2 : Int × GS, f_Hall_days G a1 = some q1 ∧ f_Model_days q1.2 a1 = some q2 ∧ q1.1 = q2.1 := by
  grind [f_Hall_days, f_Model_days, f_Model_isIn, wr_of, gi_si, wG, gd]
theorem has_eq (G : GS) (p : Int) : f_People_has G p = some (if 0 ≤ p ∧ p < gi G 1 7 then 1 else 0) := by
  unfold f_People_has
  grind
theorem isMan_eq (G : GS) (p : Int) (h : gi G 1 7 ≤ 32) : f_People_isMan G p = some (if 0 ≤ p ∧ p < gi G 1 7 ∧ gi G 2 p.toNat = 0 then 1 else 0) := by
  grind [f_People_isMan, has_eq, gd]
