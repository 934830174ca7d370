/-! a law told -/
theorem dv_0 : dv 0 3 = 0 := by decide
theorem md_0 : md 0 3 = 0 := by decide
theorem dv_1 : dv 1 3 = 0 := by decide
theorem md_1 : md 1 3 = 1 := by decide
theorem dv_2 : dv 2 3 = 0 := by decide
theorem md_2 : md 2 3 = 2 := by decide
theorem dv_3 : dv 3 3 = 1 := by decide
theorem md_3 : md 3 3 = 0 := by decide
theorem dv_4 : dv 4 3 = 1 := by decide
theorem md_4 : md 4 3 = 1 := by decide
theorem dv_5 : dv 5 3 = 1 := by decide
theorem md_5 : md 5 3 = 2 := by decide
theorem dv_6 : dv 6 3 = 2 := by decide
theorem md_6 : md 6 3 = 0 := by decide
theorem dv_7 : dv 7 3 = 2 := by decide
theorem md_7 : md 7 3 = 1 := by decide
theorem dv_8 : dv 8 3 = 2 := by decide
theorem md_8 : md 8 3 = 2 := by decide
theorem md_10 : md 10 3 = 1 := by decide
theorem md_11 : md 11 3 = 2 := by decide
theorem md_12 : md 12 3 = 0 := by decide
theorem md_13 : md 13 3 = 1 := by decide
theorem md_14 : md 14 3 = 2 := by decide
theorem md_15 : md 15 3 = 0 := by decide
theorem md_16 : md 16 3 = 1 := by decide
theorem md_17 : md 17 3 = 2 := by decide
theorem md_18 : md 18 3 = 0 := by decide
theorem told_1 (G : GS) (c : Nat) : f_Law_told G c 1 = some (gi G c 4) := by
  simp [f_Law_told, f_Law_told_L20, f_Law_told_L49]
theorem told_2 (G : GS) (c : Nat) : f_Law_told G c 2 = some (gi G c 5) := by
  simp [f_Law_told, f_Law_told_L20, f_Law_told_L49]
theorem told_3 (G : GS) (c : Nat) : f_Law_told G c 3 = some (gi G c 6) := by
  simp [f_Law_told, f_Law_told_L20, f_Law_told_L49]
theorem told_4 (G : GS) (c : Nat) : f_Law_told G c 4 = some (gi G c 7) := by
  simp [f_Law_told, f_Law_told_L20, f_Law_told_L49]
theorem told_5 (G : GS) (c : Nat) : f_Law_told G c 5 = some (gi G (c + 1) 0) := by
  simp [f_Law_told, gd, show wr 0 = 0 from wr_of (by decide) (by decide)]
theorem told_6 (G : GS) (c : Nat) : f_Law_told G c 6 = some (gi G (c + 1) 1) := by
  simp [f_Law_told, gd, show wr 1 = 1 from wr_of (by decide) (by decide)]
theorem told_7 (G : GS) (c : Nat) : f_Law_told G c 7 = some (gi G (c + 1) 2) := by
  simp [f_Law_told, gd, show wr 2 = 2 from wr_of (by decide) (by decide)]
theorem told_8 (G : GS) (c : Nat) : f_Law_told G c 8 = some (gi G (c + 1) 3) := by
  simp [f_Law_told, gd, show wr 3 = 3 from wr_of (by decide) (by decide)]
theorem told_10 (G : GS) (c : Nat) : f_Law_told G c 10 = some (gi G (c + 2) 0) := by
  simp [f_Law_told, f_Law_told_L20, f_Law_wardTold, gd, dv_0, md_0]
theorem told_11 (G : GS) (c : Nat) : f_Law_told G c 11 = some (gi G (c + 3) 0) := by
  simp [f_Law_told, f_Law_told_L20, f_Law_wardTold, gd, dv_1, md_1]
theorem told_12 (G : GS) (c : Nat) : f_Law_told G c 12 = some (gi G (c + 4) 0) := by
  simp [f_Law_told, f_Law_told_L20, f_Law_wardTold, gd, dv_2, md_2]
theorem told_13 (G : GS) (c : Nat) : f_Law_told G c 13 = some (gi G (c + 2) 1) := by
  simp [f_Law_told, f_Law_told_L20, f_Law_wardTold, gd, dv_3, md_3]
theorem told_14 (G : GS) (c : Nat) : f_Law_told G c 14 = some (gi G (c + 3) 1) := by
  simp [f_Law_told, f_Law_told_L20, f_Law_wardTold, gd, dv_4, md_4]
theorem told_15 (G : GS) (c : Nat) : f_Law_told G c 15 = some (gi G (c + 4) 1) := by
  simp [f_Law_told, f_Law_told_L20, f_Law_wardTold, gd, dv_5, md_5]
theorem told_16 (G : GS) (c : Nat) : f_Law_told G c 16 = some (gi G (c + 2) 2) := by
  simp [f_Law_told, f_Law_told_L20, f_Law_wardTold, gd, dv_6, md_6]
theorem told_17 (G : GS) (c : Nat) : f_Law_told G c 17 = some (gi G (c + 3) 2) := by
  simp [f_Law_told, f_Law_told_L20, f_Law_wardTold, gd, dv_7, md_7]
theorem told_18 (G : GS) (c : Nat) : f_Law_told G c 18 = some (gi G (c + 4) 2) := by
  simp [f_Law_told, f_Law_told_L20, f_Law_wardTold, gd, dv_8, md_8]
theorem told_x (G : GS) (c : Nat) {w : Int} (h : w < 1 ∨ w = 9 ∨ 18 < w) : f_Law_told G c w = some (-1) := by
  grind [f_Law_told, f_Law_told_L20, f_Law_told_L49]
def lonM (G : GS) (r w : Int) : Option Int := if w = 1 then gd (0 ≤ r ∧ r < 4) <| some (gi G 96 r.toNat) else if w = 2 then gd (0 ≤ r ∧ r < 4) <| some (gi G 97 r.toNat) else if w = 3 then gd (0 ≤ r ∧ r < 4) <| some (gi G 98 r.toNat) else if w = 4 then gd (0 ≤ r ∧ r < 4) <| some (gi G 99 r.toNat) else (f_Model_isIn G w 5 8).bind fun q3 => if q3 = 0 then (f_Model_isIn G w 10 18).bind fun q4 => if q4 = 0 then some (-1) else if md w 3 = 1 then gd (0 ≤ wr ((3 * r) + (dv (w - 10) 3)) ∧ wr ((3 * r) + (dv (w - 10) 3)) < 12) <| some (gi G 101 (wr ((3 * r) + (dv (w - 10) 3))).toNat) else if md w 3 = 2 then gd (0 ≤ wr ((3 * r) + (dv (w - 10) 3)) ∧ wr ((3 * r) + (dv (w - 10) 3)) < 12) <| some (gi G 102 (wr ((3 * r) + (dv (w - 10) 3))).toNat) else gd (0 ≤ wr ((3 * r) + (dv (w - 10) 3)) ∧ wr ((3 * r) + (dv (w - 10) 3)) < 12) <| some (gi G 103 (wr ((3 * r) + (dv (w - 10) 3))).toNat) else gd (0 ≤ wr (((4 * r) + w) - 5) ∧ wr (((4 * r) + w) - 5) < 16) <| some (gi G 100 (wr (((4 * r) + w) - 5)).toNat)
theorem lonM_x {G : GS} {r w : Int} (h : w < 1 ∨ w = 9 ∨ 18 < w) : lonM G r w = some (-1) := by
  grind [lonM, isIn_eq]
theorem lonM_1 {G : GS} {r : Nat} (h : r < 4) : lonM G r 1 = some (gi G 96 r) := by
  have hr : (r : Int) < 4 := by omega
  simp [lonM, gd, hr]
theorem lonM_2 {G : GS} {r : Nat} (h : r < 4) : lonM G r 2 = some (gi G 97 r) := by
  have hr : (r : Int) < 4 := by omega
  simp [lonM, gd, hr]
theorem lonM_3 {G : GS} {r : Nat} (h : r < 4) : lonM G r 3 = some (gi G 98 r) := by
  have hr : (r : Int) < 4 := by omega
  simp [lonM, gd, hr]
theorem lonM_4 {G : GS} {r : Nat} (h : r < 4) : lonM G r 4 = some (gi G 99 r) := by
  have hr : (r : Int) < 4 := by omega
  simp [lonM, gd, hr]
theorem lonM_5 {G : GS} {r : Nat} (h : r < 4) : lonM G r 5 = some (gi G 100 (4 * r + 0)) := by
  obtain ⟨k, hk⟩ : ∃ k : Nat, k = 4 * r + 0 := ⟨_, rfl⟩
  have hw : wr ((4 * (r : Int)) + 5 - 5) = (k : Int) := by rw [wr_of (by omega) (by omega)]; omega
  have hr : (k : Int) < 16 := by omega
  unfold lonM
  rw [hw, isIn_eq]
  rw [← hk]
  simp [gd, hr]
theorem lonM_6 {G : GS} {r : Nat} (h : r < 4) : lonM G r 6 = some (gi G 100 (4 * r + 1)) := by
  obtain ⟨k, hk⟩ : ∃ k : Nat, k = 4 * r + 1 := ⟨_, rfl⟩
  have hw : wr ((4 * (r : Int)) + 6 - 5) = (k : Int) := by rw [wr_of (by omega) (by omega)]; omega
  have hr : (k : Int) < 16 := by omega
  unfold lonM
  rw [hw, isIn_eq]
  rw [← hk]
  simp [gd, hr]
theorem lonM_7 {G : GS} {r : Nat} (h : r < 4) : lonM G r 7 = some (gi G 100 (4 * r + 2)) := by
  obtain ⟨k, hk⟩ : ∃ k : Nat, k = 4 * r + 2 := ⟨_, rfl⟩
  have hw : wr ((4 * (r : Int)) + 7 - 5) = (k : Int) := by rw [wr_of (by omega) (by omega)]; omega
  have hr : (k : Int) < 16 := by omega
  unfold lonM
  rw [hw, isIn_eq]
  rw [← hk]
  simp [gd, hr]
theorem lonM_8 {G : GS} {r : Nat} (h : r < 4) : lonM G r 8 = some (gi G 100 (4 * r + 3)) := by
  obtain ⟨k, hk⟩ : ∃ k : Nat, k = 4 * r + 3 := ⟨_, rfl⟩
  have hw : wr ((4 * (r : Int)) + 8 - 5) = (k : Int) := by rw [wr_of (by omega) (by omega)]; omega
  have hr : (k : Int) < 16 := by omega
  unfold lonM
  rw [hw, isIn_eq]
  rw [← hk]
  simp [gd, hr]
theorem lonM_10 {G : GS} {r : Nat} (h : r < 4) : lonM G r 10 = some (gi G 101 (3 * r + 0)) := by
  obtain ⟨k, hk⟩ : ∃ k : Nat, k = 3 * r + 0 := ⟨_, rfl⟩
  have hw : wr ((3 * (r : Int)) + 0) = (k : Int) := by rw [wr_of (by omega) (by omega)]; omega
  have hr : (k : Int) < 12 := by omega
  unfold lonM
  rw [show dv (10 - 10) 3 = 0 by decide, hw, isIn_eq, isIn_eq, md_10]
  rw [← hk]
  simp [gd, hr]
theorem lonM_11 {G : GS} {r : Nat} (h : r < 4) : lonM G r 11 = some (gi G 102 (3 * r + 0)) := by
  obtain ⟨k, hk⟩ : ∃ k : Nat, k = 3 * r + 0 := ⟨_, rfl⟩
  have hw : wr ((3 * (r : Int)) + 0) = (k : Int) := by rw [wr_of (by omega) (by omega)]; omega
  have hr : (k : Int) < 12 := by omega
  unfold lonM
  rw [show dv (11 - 10) 3 = 0 by decide, hw, isIn_eq, isIn_eq, md_11]
  rw [← hk]
  simp [gd, hr]
theorem lonM_12 {G : GS} {r : Nat} (h : r < 4) : lonM G r 12 = some (gi G 103 (3 * r + 0)) := by
  obtain ⟨k, hk⟩ : ∃ k : Nat, k = 3 * r + 0 := ⟨_, rfl⟩
  have hw : wr ((3 * (r : Int)) + 0) = (k : Int) := by rw [wr_of (by omega) (by omega)]; omega
  have hr : (k : Int) < 12 := by omega
  unfold lonM
  rw [show dv (12 - 10) 3 = 0 by decide, hw, isIn_eq, isIn_eq, md_12]
  rw [← hk]
  simp [gd, hr]
theorem lonM_13 {G : GS} {r : Nat} (h : r < 4) : lonM G r 13 = some (gi G 101 (3 * r + 1)) := by
  obtain ⟨k, hk⟩ : ∃ k : Nat, k = 3 * r + 1 := ⟨_, rfl⟩
  have hw : wr ((3 * (r : Int)) + 1) = (k : Int) := by rw [wr_of (by omega) (by omega)]; omega
  have hr : (k : Int) < 12 := by omega
  unfold lonM
  rw [show dv (13 - 10) 3 = 1 by decide, hw, isIn_eq, isIn_eq, md_13]
  rw [← hk]
  simp [gd, hr]
theorem lonM_14 {G : GS} {r : Nat} (h : r < 4) : lonM G r 14 = some (gi G 102 (3 * r + 1)) := by
  obtain ⟨k, hk⟩ : ∃ k : Nat, k = 3 * r + 1 := ⟨_, rfl⟩
  have hw : wr ((3 * (r : Int)) + 1) = (k : Int) := by rw [wr_of (by omega) (by omega)]; omega
  have hr : (k : Int) < 12 := by omega
  unfold lonM
  rw [show dv (14 - 10) 3 = 1 by decide, hw, isIn_eq, isIn_eq, md_14]
  rw [← hk]
  simp [gd, hr]
theorem lonM_15 {G : GS} {r : Nat} (h : r < 4) : lonM G r 15 = some (gi G 103 (3 * r + 1)) := by
  obtain ⟨k, hk⟩ : ∃ k : Nat, k = 3 * r + 1 := ⟨_, rfl⟩
  have hw : wr ((3 * (r : Int)) + 1) = (k : Int) := by rw [wr_of (by omega) (by omega)]; omega
  have hr : (k : Int) < 12 := by omega
  unfold lonM
  rw [show dv (15 - 10) 3 = 1 by decide, hw, isIn_eq, isIn_eq, md_15]
  rw [← hk]
  simp [gd, hr]
theorem lonM_16 {G : GS} {r : Nat} (h : r < 4) : lonM G r 16 = some (gi G 101 (3 * r + 2)) := by
  obtain ⟨k, hk⟩ : ∃ k : Nat, k = 3 * r + 2 := ⟨_, rfl⟩
  have hw : wr ((3 * (r : Int)) + 2) = (k : Int) := by rw [wr_of (by omega) (by omega)]; omega
  have hr : (k : Int) < 12 := by omega
  unfold lonM
  rw [show dv (16 - 10) 3 = 2 by decide, hw, isIn_eq, isIn_eq, md_16]
  rw [← hk]
  simp [gd, hr]
theorem lonM_17 {G : GS} {r : Nat} (h : r < 4) : lonM G r 17 = some (gi G 102 (3 * r + 2)) := by
  obtain ⟨k, hk⟩ : ∃ k : Nat, k = 3 * r + 2 := ⟨_, rfl⟩
  have hw : wr ((3 * (r : Int)) + 2) = (k : Int) := by rw [wr_of (by omega) (by omega)]; omega
  have hr : (k : Int) < 12 := by omega
  unfold lonM
  rw [show dv (17 - 10) 3 = 2 by decide, hw, isIn_eq, isIn_eq, md_17]
  rw [← hk]
  simp [gd, hr]
theorem lonM_18 {G : GS} {r : Nat} (h : r < 4) : lonM G r 18 = some (gi G 103 (3 * r + 2)) := by
  obtain ⟨k, hk⟩ : ∃ k : Nat, k = 3 * r + 2 := ⟨_, rfl⟩
  have hw : wr ((3 * (r : Int)) + 2) = (k : Int) := by rw [wr_of (by omega) (by omega)]; omega
  have hr : (k : Int) < 12 := by omega
  unfold lonM
  rw [show dv (18 - 10) 3 = 2 by decide, hw, isIn_eq, isIn_eq, md_18]
  rw [← hk]
  simp [gd, hr]
theorem step_lawOn : Step_lawOn Inv := by
  intro G d w hd hw hI
  have hI' := hI
  obtain ⟨hE, hP, hL, hR, hS, hT, hM, hJ, hK⟩ := hI'
  have h1 := hDay_eq G d
  have h2 := mDay_eq G d
  by_cases c : 0 ≤ d ∧ d ≤ 29999
  · obtain ⟨r, r4, hon, pH, pM⟩ := on_eq hE hR c.1
    rw [if_pos c] at h1 h2
    by_cases w0 : w = 0
    · exact ⟨r, r, by simp [f_Hall_lawOn, h1, pH, w0], by simp [f_Model_lawOn, h2, pM, w0], rfl, hI⟩
    · obtain ⟨k1, k2, k3, k4, k5⟩ := hK
      obtain ⟨⟨a1, a2, a3, a4⟩, -, b, e, -⟩ := k5 r r4
      have hc := k1 r r4
      have r4' : (r : Int) < 4 := by omega
      have hH : f_Hall_lawOn G d w = f_Law_told G (gp G 49 r) w := by
        simp [f_Hall_lawOn, h1, w0, f_Hall_lawAt, pH, gd, hc, r4']
      have hMo : f_Model_lawOn G d w = lonM G r w := by
        simp only [f_Model_lawOn, h2, pM, Option.bind_some, if_neg w0, if_neg (show ¬ ((1 : Int) = 0) by decide)]
        rfl
      rw [hH, hMo]
      have hx : w < 1 ∨ w = 9 ∨ 18 < w ∨ w = 1 ∨ w = 2 ∨ w = 3 ∨ w = 4 ∨ w = 5 ∨ w = 6 ∨ w = 7 ∨ w = 8 ∨ w = 10 ∨ w = 11 ∨ w = 12 ∨ w = 13 ∨ w = 14 ∨ w = 15 ∨ w = 16 ∨ w = 17 ∨ w = 18 := by omega
      rcases hx with hx | hx | hx | rfl | rfl | rfl | rfl | rfl | rfl | rfl | rfl | rfl | rfl | rfl | rfl | rfl | rfl | rfl | rfl | rfl
      · exact ⟨_, _, told_x _ _ (by omega), lonM_x (by omega), rfl, hI⟩
      · exact ⟨_, _, told_x _ _ (by omega), lonM_x (by omega), rfl, hI⟩
      · exact ⟨_, _, told_x _ _ (by omega), lonM_x (by omega), rfl, hI⟩
      · exact ⟨_, _, told_1 _ _, lonM_1 r4, a1.symm, hI⟩
      · exact ⟨_, _, told_2 _ _, lonM_2 r4, a2.symm, hI⟩
      · exact ⟨_, _, told_3 _ _, lonM_3 r4, a3.symm, hI⟩
      · exact ⟨_, _, told_4 _ _, lonM_4 r4, a4.symm, hI⟩
      · exact ⟨_, _, told_5 _ _, lonM_5 r4, (b 0 (by decide)).1.symm, hI⟩
      · exact ⟨_, _, told_6 _ _, lonM_6 r4, (b 1 (by decide)).1.symm, hI⟩
      · exact ⟨_, _, told_7 _ _, lonM_7 r4, (b 2 (by decide)).1.symm, hI⟩
      · exact ⟨_, _, told_8 _ _, lonM_8 r4, (b 3 (by decide)).1.symm, hI⟩
      · exact ⟨_, _, told_10 _ _, lonM_10 r4, (e 0 (by decide)).1.symm, hI⟩
      · exact ⟨_, _, told_11 _ _, lonM_11 r4, (e 0 (by decide)).2.2.2.1.symm, hI⟩
      · exact ⟨_, _, told_12 _ _, lonM_12 r4, (e 0 (by decide)).2.2.2.2.2.2.1.symm, hI⟩
      · exact ⟨_, _, told_13 _ _, lonM_13 r4, (e 1 (by decide)).1.symm, hI⟩
      · exact ⟨_, _, told_14 _ _, lonM_14 r4, (e 1 (by decide)).2.2.2.1.symm, hI⟩
      · exact ⟨_, _, told_15 _ _, lonM_15 r4, (e 1 (by decide)).2.2.2.2.2.2.1.symm, hI⟩
      · exact ⟨_, _, told_16 _ _, lonM_16 r4, (e 2 (by decide)).1.symm, hI⟩
      · exact ⟨_, _, told_17 _ _, lonM_17 r4, (e 2 (by decide)).2.2.2.1.symm, hI⟩
      · exact ⟨_, _, told_18 _ _, lonM_18 r4, (e 2 (by decide)).2.2.2.2.2.2.1.symm, hI⟩
  · rw [if_neg c] at h1 h2
    exact ⟨-1, -1, by simp [f_Hall_lawOn, h1], by simp [f_Model_lawOn, h2], rfl, hI⟩
