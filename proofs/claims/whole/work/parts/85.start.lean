/-! the first store: what is written -/
theorem r71_24 : ∀ k, k < 16 → gi gk_71 24 k = -1 ∧ gi gk_71 130 k = -1 := by decide +kernel
theorem r71_46 : ∀ k, k < 120 → gi gk_71 46 k = -2 ∧ gi gk_71 135 k = -2 := by decide +kernel
theorem r71_17 : ∀ k, k < 37 → gi gk_71 17 k = wsL.getD k 0 := by decide +kernel
theorem r71_s : gi gk_71 0 12 = 1 ∧ gi gk_71 81 16 = 1 ∧ gi gk_71 15 9 = -1 ∧ gi gk_71 81 52 = -1 := by decide +kernel
theorem r71_p : gp gk_71 49 0 = 50 ∧ gp gk_71 49 1 = 56 ∧ gp gk_71 49 2 = 62 ∧ gp gk_71 49 3 = 68 ∧ gp gk_71 0 13 = 75 := by decide +kernel
theorem r71_96 : ∀ r, r < 4 → gi gk_71 96 r = 1 ∧ gi gk_71 97 r = 3 ∧ gi gk_71 98 r = 9999 ∧ gi gk_71 99 r = 9999 := by decide +kernel
theorem r71_law : ∀ c, (c = 50 ∨ c = 56 ∨ c = 62 ∨ c = 68) → gi gk_71 c 4 = 1 ∧ gi gk_71 c 5 = 3 ∧ gi gk_71 c 6 = 9999 ∧ gi gk_71 c 7 = 9999 := by
  intro c h
  rcases h with rfl | rfl | rfl | rfl <;> decide +kernel
theorem lp71 (r : Nat) (hr : r < 4) : gp gk_71 49 r = 50 + 6 * r := by
  obtain ⟨p0, p1, p2, p3, -⟩ := r71_p
  have h : r = 0 ∨ r = 1 ∨ r = 2 ∨ r = 3 := by omega
  rcases h with rfl | rfl | rfl | rfl
  · exact p0
  · exact p1
  · exact p2
  · exact p3
theorem wz {c k : Nat} (h : ¬ ((c = 15 ∧ k = 9) ∨ (c = 17 ∧ k < 37) ∨ (c = 24 ∧ k < 16) ∨ (c = 46 ∧ k < 120) ∨ ((c = 50 ∨ c = 56 ∨ c = 62 ∨ c = 68 ∨ c = 75) ∧ 4 ≤ k ∧ k ≤ 7) ∨ (c = 0 ∧ k = 12) ∨ (c = 81 ∧ (k = 16 ∨ k = 52)) ∨ (96 ≤ c ∧ c ≤ 99 ∧ k < 4) ∨ (c = 130 ∧ k < 16) ∨ (c = 135 ∧ k < 120))) : gi gk_71 c k = 0 := z71 (decide_eq_false h)
theorem E71 : InvE gk_71 := by
  refine ⟨fun q hq k => ?_, fun q hq => ?_⟩
  · simp only [eqC, List.mem_cons, List.not_mem_nil, or_false] at hq
    rcases hq with rfl | rfl | rfl | rfl | rfl | rfl | rfl | rfl | rfl | rfl | rfl | rfl | rfl | rfl | rfl | rfl | rfl | rfl | rfl | rfl | rfl | rfl <;> dsimp only
    all_goals first
      | (rw [wz (by omega), wz (by omega)]; done)
      | (by_cases y : k < 16
         · rw [(r71_24 k y).1, (r71_24 k y).2]
         · rw [wz (by omega), wz (by omega)])
      | (by_cases y : k < 120
         · rw [(r71_46 k y).1, (r71_46 k y).2]
         · rw [wz (by omega), wz (by omega)])
  · simp only [eqS, List.mem_cons, List.not_mem_nil, or_false] at hq
    obtain ⟨s1, s2, s3, s4⟩ := r71_s
    rcases hq with rfl | rfl | rfl | rfl | rfl | rfl | rfl | rfl <;> dsimp only
    · rw [wz (by omega), wz (by omega)]
    · rw [wz (by omega), wz (by omega)]
    · rw [wz (by omega), wz (by omega)]
    · rw [s1, s2]
    · rw [wz (by omega), wz (by omega)]
    · rw [wz (by omega), wz (by omega)]
    · rw [s3, s4]
    · rw [wz (by omega), wz (by omega)]
theorem K71 (r : Nat) (hr : r < 4) : LawRel gk_71 r (gp gk_71 49 r) := by
  have hp := lp71 r hr
  obtain ⟨m1, m2, m3, m4⟩ := r71_96 r hr
  obtain ⟨c1, c2, c3, c4⟩ := r71_law (gp gk_71 49 r) (by omega)
  generalize gp gk_71 49 r = c at *
  have hc : c = 50 ∨ c = 56 ∨ c = 62 ∨ c = 68 := by omega
  refine ⟨by omega, by omega, fun s hs => ?_, fun v hv => ?_, [], by decide, by decide, by decide, fun l hl => (by cases hl), ?_, fun i hi => absurd hi (Nat.not_lt_zero i), ?_, fun k hk => absurd hk (Nat.not_lt_zero k), fun k hk => ?_, fun i hi => absurd hi (Nat.not_lt_zero i)⟩
  · rw [wz (c := 100) (by omega), wz (c := c + 1) (by omega)]; decide
  · rw [wz (c := 101) (by omega), wz (c := c + 2) (by omega), wz (c := 102) (by omega), wz (c := c + 3) (by omega), wz (c := 103) (by omega), wz (c := c + 4) (by omega)]; decide
  · rw [wz (c := c) (by omega)]; rfl
  · rw [wz (c := 104) (by omega)]; rfl
  · rw [wz (c := 106) (by omega)]
    have : k = 0 := Nat.le_zero.mp hk
    subst this
    rfl
theorem I71 : Inv gk_71 := by
  obtain ⟨s1, s2, s3, s4⟩ := r71_s
  have z14 : gi gk_71 0 14 = 0 := wz (by omega)
  have z17 : gi gk_71 1 7 = 0 := wz (by omega)
  have z95 : gi gk_71 9 5 = 0 := wz (by omega)
  have z74 : ∀ k, gi gk_71 74 k = 0 := fun k => wz (by omega)
  have z38 : gi gk_71 38 6 = 0 := wz (by omega)
  have z15 : gi gk_71 15 1 = 0 := wz (by omega)
  refine ⟨E71, ⟨by omega, by omega, by omega, by omega, fun p hp => by omega, fun p _ => wz (by omega)⟩, ⟨by omega, by omega, fun l hl => by omega, fun k => ?_⟩, ⟨by omega, by omega, z74 0, fun r => by rw [z74]; omega, fun r hr => by omega⟩, ⟨by omega, by omega, fun e he => by omega⟩, ⟨by omega, by omega, fun k => ?_, r71_17⟩, ⟨fun e => ?_, fun p m hp _ => by omega⟩, ⟨fun j l hj hl => ?_, Or.inl (wz (by omega)), Or.inl (wz (by omega)), fun h => ?_, fun h => ?_⟩, ⟨fun r hr => ?_, ?_, fun r s hr hs e => ?_, fun r hr => ?_, K71⟩⟩
  · rw [wz (c := 13) (by omega), wz (c := 14) (by omega)]; decide
  · rw [wz (c := 16) (by omega), wz (c := 117) (by omega)]; decide
  · by_cases y : e < 16
    · exact Or.inl (r71_24 e y).1
    · right
      rw [wz (by omega)]; decide
  · exact Or.inl (r71_46 _ (by omega)).1
  · rw [wz (by omega)] at h; cases h
  · rw [wz (by omega)] at h; cases h
  · have := lp71 r hr
    have h : r = 0 ∨ r = 1 ∨ r = 2 ∨ r = 3 := by omega
    rw [this]
    rcases h with rfl | rfl | rfl | rfl <;> decide
  · rw [r71_p.2.2.2.2]; decide
  · rw [lp71 r hr, lp71 s hs] at e; omega
  · rw [lp71 r hr, r71_p.2.2.2.2]; omega
