/-! simple operations: what the printed functions answer -/
theorem ite_i {c : Prop} [Decidable c] {a b : Int} {α : Type} {f : Int → α} : (if c then f a else f b) = f (if c then a else b) := by split <;> rfl
theorem isIn_eq (G : GS) (v a b : Int) : f_Model_isIn G v a b = some (if a ≤ v ∧ v ≤ b then 1 else 0) := by
  unfold f_Model_isIn
  grind
theorem has_eq (G : GS) (p : Int) : f_People_has G p = some (if 0 ≤ p ∧ p < gi G 1 7 then 1 else 0) := by
  unfold f_People_has
  grind
theorem isMan_eq {G : GS} (p : Int) (h : gi G 1 7 ≤ 32) : f_People_isMan G p = some (if 0 ≤ p ∧ p < gi G 1 7 ∧ gi G 2 p.toNat = 0 then 1 else 0) := by
  grind [f_People_isMan, has_eq, gd]
theorem isWoman_eq {G : GS} (p : Int) (h : gi G 1 7 ≤ 32) : f_People_isWoman G p = some (if 0 ≤ p ∧ p < gi G 1 7 ∧ gi G 2 p.toNat = 1 then 1 else 0) := by
  grind [f_People_isWoman, has_eq, gd]
theorem isDead_eq {G : GS} (p : Int) (h : gi G 1 7 ≤ 32) : f_People_isDead G p = some (if 0 ≤ p ∧ p < gi G 1 7 ∧ gi G 7 p.toNat ≠ -1 then 1 else 0) := by
  grind [f_People_isDead, has_eq, gd]
theorem isBirth_eq (G : GS) (a b : Int) : f_Hall_isBirth G a b = some (if 0 ≤ a ∧ a ≤ b ∧ b ≤ gi G 0 14 then 1 else 0) := by
  grind [f_Hall_isBirth]
theorem wr_1 {x : Int} (h0 : 0 ≤ x) (h1 : x ≤ 100000) : wr (x - 1) = x - 1 := wr_of (by omega) (by omega)
theorem isPerson_eq {G : GS} (p : Int) (h0 : 0 ≤ gi G 81 1) (h1 : gi G 81 1 ≤ 32) : f_Model_isPerson G p = some (if 0 ≤ p ∧ p < gi G 81 1 then 1 else 0) := by
  grind [f_Model_isPerson, isIn_eq, wr_1]
theorem isOf_eq {G : GS} (p s : Int) (h0 : 0 ≤ gi G 81 1) (h1 : gi G 81 1 ≤ 32) : f_Model_isOf G p s = some (if p = -1 ∨ (0 ≤ p ∧ p < gi G 81 1 ∧ gi G 82 p.toNat = s) then 1 else 0) := by
  grind [f_Model_isOf, isPerson_eq, gd]
theorem mDay_eq (G : GS) (a : Int) : f_Model_isDay G a = some (if 0 ≤ a ∧ a ≤ 29999 then 1 else 0) := by
  grind [f_Model_isDay, isIn_eq]
theorem hDay_eq (G : GS) (a : Int) : f_Hall_isDay G a = some (if 0 ≤ a ∧ a ≤ 29999 then 1 else 0) := by
  grind [f_Hall_isDay]
theorem isSpan_eq (G : GS) (a b : Int) : f_Model_isSpan G a b = some (if 0 ≤ a ∧ a ≤ 29999 ∧ a ≤ b ∧ b ≤ gi G 81 0 then 1 else 0) := by
  grind [f_Model_isSpan, mDay_eq]
theorem H_days {G : GS} {a1 : Int} (h0 : 0 ≤ gi G 0 14) (h1 : gi G 0 14 ≤ 29999) : f_Hall_days G a1 = some (if 1 ≤ a1 ∧ a1 ≤ 9999 ∧ gi G 0 14 + a1 ≤ 29999 then (gi G 0 14 + a1, si G 0 14 (gi G 0 14 + a1)) else (-1, G)) := by
  grind [f_Hall_days, wr_of, gi_si, wG]
theorem M_days {G : GS} {a1 : Int} (h0 : 0 ≤ gi G 81 0) (h1 : gi G 81 0 ≤ 29999) : f_Model_days G a1 = some (if 1 ≤ a1 ∧ a1 ≤ 9999 ∧ gi G 81 0 + a1 ≤ 29999 then (gi G 81 0 + a1, si G 81 0 (gi G 81 0 + a1)) else (-1, G)) := by
  grind [f_Model_days, isIn_eq, wr_of, gi_si, wG]
def addP (G : GS) (n : Nat) (a1 a2 a3 a4 a5 : Int) : GS := si (si (si (si (si (si (si (si G 2 n a1) 3 n a2) 4 n a3) 5 n a4) 6 n a5) 7 n (-1)) 8 n (-1)) 1 7 (n + 1)
def addM (G : GS) (n : Nat) (a1 a2 a3 a4 a5 : Int) : GS := si (si (si (si (si (si (si (si G 82 n a1) 83 n a2) 84 n a3) 85 n a4) 86 n a5) 87 n (-1)) 88 n (-1)) 81 1 (n + 1)
theorem P_add {G : GS} {a1 a2 a3 a4 a5 : Int} (h0 : 0 ≤ gi G 1 7) (h1 : gi G 1 7 ≤ 32) : f_People_add G a1 a2 a3 a4 a5 = some (if gi G 1 7 < 32 then (gi G 1 7, addP G (gi G 1 7).toNat a1 a2 a3 a4 a5) else (-1, G)) := by
  unfold f_People_add
  by_cases c : gi G 1 7 < 32
  · have hw : wr (gi G 1 7 + 1) = gi G 1 7 + 1 := wr_of (by omega) (by omega)
    simp [wG, gd, gi_si, c, h0, addP, hw, wr_gi, Int.toNat_of_nonneg h0]
  · simp [c]
