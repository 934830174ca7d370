/-! what a LAND is -/
theorem bit6 {i : Int} (h0 : 0 ≤ i) (h1 : i < 6) : bAnd 63 (bShl 1 i) ≠ 0 := by
  have h : i = 0 ∨ i = 1 ∨ i = 2 ∨ i = 3 ∨ i = 4 ∨ i = 5 := by omega
  rcases h with rfl | rfl | rfl | rfl | rfl | rfl <;> decide
theorem worth_eq {G : GS} (e93 : ∀ k, gi G 93 k = gi G 13 k) {l : Int} (hl : 0 ≤ l ∧ l < 12) : ∀ (n : Nat) (x i : Int), 0 ≤ i → i ≤ 6 → 6 - i < n → ∃ v, f_Lands_worthOfSet_L5 G n l 63 x i = some v ∧ f_Model_worthOf_L4 G n l x i = some v := by
  intro n
  induction n with
  | zero => intro x i q1 q2 q3; omega
  | succ n ih =>
    intro x i q1 q2 q3
    by_cases hi : 6 ≤ i
    · exact ⟨x, by simp only [f_Lands_worthOfSet_L5, if_pos hi], by simp only [f_Model_worthOf_L4, if_pos hi]⟩
    · have hw : wr (i + 1) = i + 1 := wr_of (by omega) (by omega)
      have hw1 : wr (l * 6 + i) = 6 * l + i := by rw [wr_of (by omega) (by omega)]; omega
      have hw2 : wr (6 * l + i) = 6 * l + i := wr_of (by omega) (by omega)
      simp only [f_Lands_worthOfSet_L5, f_Model_worthOf_L4, if_neg hi, if_neg (bit6 q1 (by omega)), f_Lands_worthOfSet_L36, hw, hw1, hw2, e93]
      rw [gd, if_pos (by omega), gd, if_pos (by omega)]
      exact ih _ _ (by omega) (by omega) (by omega)
def loV (G : GS) (l w v : Int) : Int := if 0 ≤ l ∧ l < gi G 9 5 then (if 10 ≤ w ∧ w ≤ 15 then gi G 13 (6 * l + w - 10).toNat else if 20 ≤ w ∧ w ≤ 25 then gi G 14 (6 * l + w - 20).toNat else if w = 0 then gi G 10 l.toNat else if w = 1 then gi G 11 l.toNat else if w = 2 then gi G 12 l.toNat else if w = 3 then v else -1) else -1
theorem H_landOf {G : GS} {l w v : Int} (h1 : gi G 9 5 ≤ 12) (hv : 0 ≤ l ∧ l < gi G 9 5 → f_Lands_worthOf G l = some v) : f_Hall_landOf G l w = some (loV G l w v) := by
  by_cases c : 0 ≤ l ∧ l < gi G 9 5
  · have hx := hv c
    have hw1 : 10 ≤ w → w ≤ 15 → wr (l * 6 + w - 10) = 6 * l + w - 10 := fun q1 q2 => by rw [wr_of (by omega) (by omega)]; omega
    have hw2 : 20 ≤ w → w ≤ 25 → wr (l * 6 + w - 20) = 6 * l + w - 20 := fun q1 q2 => by rw [wr_of (by omega) (by omega)]; omega
    have hl := lHas_eq G l
    rw [if_pos c] at hl
    unfold loV
    rw [if_pos c]
    have c1 : l < 12 := by omega
    clear hv h1
    grind (splits := 20) [f_Hall_landOf, f_Lands_told, f_Lands_told_L27, f_Lands_told_L54, gd]
  · unfold loV
    rw [if_neg c]
    simp [f_Hall_landOf, lHas_eq, c]
theorem M_landOf {G : GS} {l w v : Int} (h0 : 0 ≤ gi G 9 5) (h1 : gi G 9 5 ≤ 12) (e10 : gi G 81 10 = gi G 9 5) (e93 : ∀ k, gi G 93 k = gi G 13 k) (e94 : ∀ k, gi G 94 k = gi G 14 k) (e90 : ∀ k, gi G 90 k = gi G 10 k) (e91 : ∀ k, gi G 91 k = gi G 11 k) (e92 : ∀ k, gi G 92 k = gi G 12 k) (hv : 0 ≤ l ∧ l < gi G 9 5 → f_Model_worthOf G l = some v) : f_Model_landOf G l w = some (loV G l w v) := by
  have hl := mLand_eq (G := G) l (by omega) (by omega)
  rw [e10] at hl
  by_cases c : 0 ≤ l ∧ l < gi G 9 5
  · have hx := hv c
    have hw1 : 10 ≤ w → w ≤ 15 → wr (6 * l + w - 10) = 6 * l + w - 10 := fun q1 q2 => by rw [wr_of (by omega) (by omega)]
    have hw2 : 20 ≤ w → w ≤ 25 → wr (6 * l + w - 20) = 6 * l + w - 20 := fun q1 q2 => by rw [wr_of (by omega) (by omega)]
    rw [if_pos c] at hl
    unfold loV
    rw [if_pos c, ← e93, ← e94, ← e90, ← e91, ← e92]
    have c1 : l < 12 := by omega
    have i1 := isIn_eq G w 10 15
    have i2 := isIn_eq G w 20 25
    clear hv h1 e10 e93 e94 e90 e91 e92
    grind (splits := 20) [f_Model_landOf, gd]
  · unfold loV
    rw [if_neg c]
    rw [if_neg c] at hl
    simp [f_Model_landOf, hl]
theorem step_landOf : Step_landOf Inv := by
  intro G l w hl hw hI
  have hI' := hI
  obtain ⟨hE, hP, hL, -⟩ := hI'
  have e10 := hE.2 ((81, 10), (9, 5)) (by decide)
  simp only at e10
  have l1 := hL.2.1
  have hex : ∃ v, 0 ≤ l ∧ l < gi G 9 5 → f_Lands_worthOf G l = some v ∧ f_Model_worthOf G l = some v := by
    by_cases c : 0 ≤ l ∧ l < gi G 9 5
    · obtain ⟨v, p1, p2⟩ := worth_eq (hE.1 (93, 13) (by decide)) (l := l) ⟨c.1, by omega⟩ FU 0 0 (by omega) (by omega) (by unfold FU; omega)
      refine ⟨v, fun _ => ⟨?_, p2⟩⟩
      show (f_Lands_worthOfSet G l 63).bind _ = _
      show (f_Lands_worthOfSet_L5 G FU l 63 0 0).bind _ = _
      rw [p1]
      rfl
    · exact ⟨0, fun q => absurd q c⟩
  obtain ⟨v, hv⟩ := hex
  exact ⟨_, _, H_landOf l1 (fun q => (hv q).1), M_landOf hL.1 l1 e10 (hE.1 (93, 13) (by decide)) (hE.1 (94, 14) (by decide)) (hE.1 (90, 10) (by decide)) (hE.1 (91, 11) (by decide)) (hE.1 (92, 12) (by decide)) (fun q => (hv q).2), rfl, hI⟩
