/-! steps that only read -/
def ofV (G : GS) (p w : Int) : Int := if 0 ≤ p ∧ p < gi G 1 7 then (if w = 0 then gi G 2 p.toNat else if w = 1 then gi G 3 p.toNat else if w = 2 then gi G 4 p.toNat else if w = 3 then gi G 5 p.toNat else if w = 4 then gi G 6 p.toNat else if w = 5 then gi G 7 p.toNat else if w = 6 then gi G 8 p.toNat else if w = 7 then gi G 25 p.toNat else -1) else -1
theorem H_of {G : GS} {p w : Int} (h1 : gi G 1 7 ≤ 32) : f_Hall_of G p w = some (ofV G p w) := by
  grind [f_Hall_of, f_People_told, has_eq, gd, ofV]
theorem M_of {G : GS} {p w : Int} (h0 : 0 ≤ gi G 1 7) (h1 : gi G 1 7 ≤ 32) (e1 : gi G 81 1 = gi G 1 7) (e2 : gi G 82 p.toNat = gi G 2 p.toNat) (e3 : gi G 83 p.toNat = gi G 3 p.toNat) (e4 : gi G 84 p.toNat = gi G 4 p.toNat) (e5 : gi G 85 p.toNat = gi G 5 p.toNat) (e6 : gi G 86 p.toNat = gi G 6 p.toNat) (e7 : gi G 87 p.toNat = gi G 7 p.toNat) (e8 : gi G 88 p.toNat = gi G 8 p.toNat) (e9 : gi G 89 p.toNat = gi G 25 p.toNat) : f_Model_of G p w = some (ofV G p w) := by
  have hg : f_Model_isPerson G p = some (if 0 ≤ p ∧ p < gi G 1 7 then 1 else 0) := by grind [isPerson_eq]
  by_cases hp : 0 ≤ p ∧ p < gi G 1 7
  · unfold ofV; rw [if_pos hp]; rw [if_pos hp] at hg; grind (splits := 20) [f_Model_of, gd]
  · unfold ofV; rw [if_neg hp]; rw [if_neg hp] at hg; grind (splits := 20) [f_Model_of, gd]
theorem step_of : Step_of Inv := by
  intro G p w hp hw hI
  have hI' := hI
  obtain ⟨hE, hP, -⟩ := hI'
  exact ⟨_, _, H_of hP.2.2.2.1, M_of hP.2.2.1 hP.2.2.2.1 (hE.2 ((81, 1), (1, 7)) (by decide)) (hE.1 (82, 2) (by decide) _) (hE.1 (83, 3) (by decide) _) (hE.1 (84, 4) (by decide) _) (hE.1 (85, 5) (by decide) _) (hE.1 (86, 6) (by decide) _) (hE.1 (87, 7) (by decide) _) (hE.1 (88, 8) (by decide) _) (hE.1 (89, 25) (by decide) _), rfl, hI⟩
theorem step_fault : Step_fault Inv := by
  intro G w hw hI
  have e1 : gi G 81 50 = gi G 15 8 := hI.1.2 ((81, 50), (15, 8)) (by decide)
  have e2 : gi G 81 52 = gi G 15 9 := hI.1.2 ((81, 52), (15, 9)) (by decide)
  refine ⟨if w = 0 then gi G 15 8 else if w = 1 then gi G 15 9 else -1, if w = 0 then gi G 15 8 else if w = 1 then gi G 15 9 else -1, ?_, ?_, rfl, hI⟩
  · grind [f_Hall_fault]
  · grind [f_Model_fault]
theorem sHas_eq (G : GS) (e : Int) : f_Seizings_has G e = some (if 0 ≤ e ∧ e < gi G 38 6 then 1 else 0) := by
  grind [f_Seizings_has]
theorem mSeiz_eq {G : GS} (e : Int) (h0 : 0 ≤ gi G 81 66) (h1 : gi G 81 66 ≤ 100) : f_Model_isSeizing G e = some (if 0 ≤ e ∧ e < gi G 81 66 then 1 else 0) := by
  grind [f_Model_isSeizing, isIn_eq, wr_1]
def szV (G : GS) (p w : Int) : Int := if 0 ≤ p ∧ p < gi G 38 6 then (if w = 0 then gi G 39 p.toNat else if w = 1 then gi G 40 p.toNat else if w = 2 then gi G 41 p.toNat else if w = 3 then gi G 42 p.toNat else if w = 4 then gi G 43 p.toNat else if w = 5 then gi G 44 p.toNat else -2) else -2
theorem H_seizing {G : GS} {p w : Int} (h1 : gi G 38 6 ≤ 100) : f_Hall_seizing G p w = some (szV G p w) := by
  grind [f_Hall_seizing, f_Seizings_tellOf, sHas_eq, gd, szV]
theorem M_seizing {G : GS} {p w : Int} (h0 : 0 ≤ gi G 38 6) (h1 : gi G 38 6 ≤ 100) (e1 : gi G 81 66 = gi G 38 6) (e2 : gi G 123 p.toNat = gi G 39 p.toNat) (e3 : gi G 124 p.toNat = gi G 40 p.toNat) (e4 : gi G 125 p.toNat = gi G 41 p.toNat) (e5 : gi G 126 p.toNat = gi G 42 p.toNat) (e6 : gi G 127 p.toNat = gi G 43 p.toNat) (e7 : gi G 128 p.toNat = gi G 44 p.toNat) : f_Model_seizing G p w = some (szV G p w) := by
  grind [f_Model_seizing, mSeiz_eq, gd, szV]
theorem step_seizing : Step_seizing Inv := by
  intro G p w hp hw hI
  have hI' := hI
  obtain ⟨hE, hP, hL, hR, hS, -⟩ := hI'
  exact ⟨_, _, H_seizing hS.2.1, M_seizing hS.1 hS.2.1 (hE.2 ((81, 66), (38, 6)) (by decide)) (hE.1 (123, 39) (by decide) _) (hE.1 (124, 40) (by decide) _) (hE.1 (125, 41) (by decide) _) (hE.1 (126, 42) (by decide) _) (hE.1 (127, 43) (by decide) _) (hE.1 (128, 44) (by decide) _), rfl, hI⟩
theorem lHas_eq (G : GS) (l : Int) : f_Lands_has G l = some (if 0 ≤ l ∧ l < gi G 9 5 then 1 else 0) := by
  grind [f_Lands_has]
theorem mLand_eq {G : GS} (l : Int) (h0 : 0 ≤ gi G 81 10) (h1 : gi G 81 10 ≤ 12) : f_Model_isLand G l = some (if 0 ≤ l ∧ l < gi G 81 10 then 1 else 0) := by
  grind [f_Model_isLand, isIn_eq, wr_1]
