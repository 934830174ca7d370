/-! a seizing (printed by wip/whole/steps6.py) -/
def addS (G : GS) (n : Nat) (l t d h w : Int) : GS := si (si (si (si (si (si (si G 39 n l) 40 n t) 41 n d) 42 n w) 43 n h) 44 n (-1)) 38 6 (n + 1)
def addT (G : GS) (n : Nat) (l t d h w : Int) : GS := si (si (si (si (si (si G 81 66 (n + 1)) 123 n l) 124 n t) 125 n d) 126 n w) 127 n h
theorem S_add {G : GS} {l t d h w : Int} (h0 : 0 ≤ gi G 38 6) (c : gi G 38 6 < 100) : f_Seizings_add G l t d h w = some (gi G 38 6, addS G (gi G 38 6).toNat l t d h w) := by
  unfold f_Seizings_add
  have hw : wr (gi G 38 6 + 1) = gi G 38 6 + 1 := wr_of (by omega) (by omega)
  simp [wG, gd, gi_si, c, h0, addS, hw, wr_gi, Int.toNat_of_nonneg h0]
theorem S_full {G : GS} {l t d h w : Int} (c : ¬ gi G 38 6 < 100) : f_Seizings_add G l t d h w = some (-1, G) := by
  unfold f_Seizings_add
  rw [if_neg c]
theorem stands_eq {G : GS} (e : Int) (h1 : gi G 38 6 ≤ 100) : f_Seizings_stands G e = some (if 0 ≤ e ∧ e < gi G 38 6 ∧ gi G 44 e.toNat = -1 then 1 else 0) := by
  grind [f_Seizings_stands, sHas_eq, gd]
theorem H_seize {G : GS} {l t d h x : Int} (h1 : gi G 38 6 ≤ 100) (h2 : gi G 1 7 ≤ 32) : f_Hall_seize G l t d h x = if (0 ≤ l ∧ l < gi G 9 5) ∧ (t = -1 ∨ (0 ≤ t ∧ t < gi G 1 7)) ∧ (0 ≤ d ∧ d ≤ gi G 0 14) ∧ (h = -1 ∨ (0 ≤ h ∧ h < gi G 38 6 ∧ gi G 44 h.toNat = -1)) ∧ (x = -1 ∨ (0 ≤ x ∧ x < gi G 1 7 ∧ gi G 7 x.toNat ≠ -1)) then f_Hall_seize_L101 G l t d h x else some (-1, G) := by
  have q1 := stands_eq h h1
  have q2 := isDead_eq x h2
  have q3 := lHas_eq G l
  have q4 := has_eq G t
  generalize hK : f_Hall_seize_L101 G l t d h x = K
  clear h1 h2
  grind (gen := 30) (splits := 40) [f_Hall_seize, f_Hall_seize_L27, f_Hall_seize_L43, f_Hall_seize_L44, f_Hall_seize_L64, f_Hall_seize_L69]
theorem M_seize {G : GS} {l t d h x : Int} (h0 : 0 ≤ gi G 81 66) (h1 : gi G 81 66 ≤ 100) (h2 : 0 ≤ gi G 81 1) (h3 : gi G 81 1 ≤ 32) (h4 : 0 ≤ gi G 81 10) (h5 : gi G 81 10 ≤ 12) : f_Model_seize G l t d h x = if (0 ≤ l ∧ l < gi G 81 10) ∧ (t = -1 ∨ (0 ≤ t ∧ t < gi G 81 1)) ∧ (0 ≤ d ∧ d ≤ gi G 81 0) ∧ (h = -1 ∨ (0 ≤ h ∧ h < gi G 81 66 ∧ gi G 128 h.toNat = -1)) ∧ (x = -1 ∨ (0 ≤ x ∧ x < gi G 81 1 ∧ gi G 87 x.toNat ≠ -1)) then f_Model_seize_L85 G l t d h x else some (-1, G) := by
  have q1 := mSeiz_eq h h0 h1
  have q2 := isPerson_eq x h2 h3
  have q3 := mLand_eq l h4 h5
  have q4 := isPerson_eq t h2 h3
  have q5 := isIn_eq G d 0 (gi G 81 0)
  generalize hK : f_Model_seize_L85 G l t d h x = K
  clear h0 h2 h4 h5
  grind (gen := 30) (splits := 40) [f_Model_seize, f_Model_seize_L21, f_Model_seize_L59, gd]
theorem H_101n {G : GS} {l t d h : Int} (h0 : 0 ≤ gi G 38 6) (c : gi G 38 6 < 100) : f_Hall_seize_L101 G l t d h (-1) = some (gi G 38 6, addS G (gi G 38 6).toNat l t d h (gi G 0 14)) := by
  unfold f_Hall_seize_L101
  rw [S_add h0 c]
  simp
theorem H_101f {G : GS} {l t d h x : Int} (c : ¬ gi G 38 6 < 100) : f_Hall_seize_L101 G l t d h x = some (-1, G) := by
  unfold f_Hall_seize_L101
  rw [S_full c]
  simp
theorem H_101x {G G7 : GS} {l t d h x : Int} {z : Nat} (h0 : 0 ≤ gi G 38 6) (c : gi G 38 6 < 100) (hx : 0 ≤ x ∧ x < 32) (e7 : addS G (gi G 38 6).toNat l t d h (gi G 0 14) = G7) (hz : f_Hall_lawAt G7 (gi G7 7 x.toNat) = some z) : f_Hall_seize_L101 G l t d h x = some (gi G 38 6, if gi G7 0 14 ≤ wr (gi G7 7 x.toNat + gi G7 z 6) then G7 else si G7 44 (gi G 38 6).toNat (gi G7 0 14)) := by
  unfold f_Hall_seize_L101
  rw [S_add h0 c, e7]
  have q1 : gi G 38 6 ≠ -1 := by omega
  have q2 : x ≠ -1 := by omega
  simp only [Option.bind_some, if_neg q1, if_neg q2, hz]
  rw [gd, if_pos hx, gd, if_pos hx]
  split
  · rfl
  · rw [gd, if_pos ⟨h0, c⟩]; rfl
theorem M_85f {G : GS} {l t d h x : Int} (c : gi G 81 66 = 100) : f_Model_seize_L85 G l t d h x = some (-1, G) := by
  unfold f_Model_seize_L85
  rw [if_pos c]
theorem M_85n {G : GS} {l t d h : Int} (h0 : 0 ≤ gi G 81 66) (c : gi G 81 66 < 100) : f_Model_seize_L85 G l t d h (-1) = some (gi G 81 66, si (addT G (gi G 81 66).toNat l t d h (gi G 81 0)) 128 (gi G 81 66).toNat (-1)) := by
  unfold f_Model_seize_L85
  have q1 : gi G 81 66 ≠ 100 := by omega
  simp [wG, gd, gi_si, q1, c, h0, addT, f_Model_seize_L206, f_Model_seize_L207, Int.toNat_of_nonneg h0]
theorem M_85x {G G6 : GS} {l t d h x : Int} {r : Nat} (h0 : 0 ≤ gi G 81 66) (c : gi G 81 66 < 100) (hx : 0 ≤ x ∧ x < 32) (hr : r < 4) (e6 : addT G (gi G 81 66).toNat l t d h (gi G 81 0) = G6) (hz : f_Model_reignOn G6 (gi G6 87 x.toNat) = some (r : Int)) : f_Model_seize_L85 G l t d h x = some (gi G 81 66, si G6 128 (gi G 81 66).toNat (if wr (gi G6 81 0 - gi G6 87 x.toNat) ≤ gi G6 98 r then -1 else gi G6 81 0)) := by
  unfold f_Model_seize_L85
  have q1 : gi G 81 66 ≠ 100 := by omega
  have q2 : x ≠ -1 := by omega
  have e6' : si (si (si (si (si (si G 81 66 (gi G 81 66 + 1)) 123 (gi G 81 66).toNat l) 124 (gi G 81 66).toNat t) 125 (gi G 81 66).toNat d) 126 (gi G 81 66).toNat (gi G 81 0)) 127 (gi G 81 66).toNat h = G6 := by
    rw [← e6]; unfold addT; rw [Int.toNat_of_nonneg h0]
  have e0 : gi (si (si (si (si G 81 66 (gi G 81 66 + 1)) 123 (gi G 81 66).toNat l) 124 (gi G 81 66).toNat t) 125 (gi G 81 66).toNat d) 81 0 = gi G 81 0 := by simp [gi_si]
  simp only [wG, gd, if_neg q1, if_neg q2, if_pos (show 0 ≤ gi G 81 66 ∧ gi G 81 66 < 100 from ⟨h0, c⟩), e0, e6', if_pos hx, hz, Option.bind_some, f_Model_seize_L206, f_Model_seize_L207, Int.toNat_natCast, if_pos (show 0 ≤ (r : Int) ∧ (r : Int) < 4 by omega)]
  split
  · rfl
  · rfl
