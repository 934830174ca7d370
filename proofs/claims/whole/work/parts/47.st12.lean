/-! the tape: one byte -/
theorem byte_z (y : Int32) : (y &&& 255).toInt = if y.toInt8.toInt < 0 then y.toInt8.toInt + 256 else y.toInt8.toInt := by
  have h1 := Int32.toInt_toInt8 y
  have h2 : (y &&& 255).toInt = (y.toBitVec &&& 255#32).toInt := rfl
  have h7 : y.toInt = y.toBitVec.toInt := rfl
  have h3 : y.toBitVec.toNat &&& 255 = y.toBitVec.toNat % 256 := Nat.and_two_pow_sub_one_eq_mod _ 8
  have h4 : (y.toBitVec &&& 255#32).toNat = y.toBitVec.toNat % 256 := by rw [BitVec.toNat_and]; exact h3
  have h8 := y.toBitVec.isLt
  rw [h1, h2, h7, BitVec.toInt_eq_toNat_cond, BitVec.toInt_eq_toNat_cond, h4, Int.bmod_def]
  generalize y.toBitVec.toNat = m at *
  repeat' split
  all_goals omega
theorem byte_eq (x : Int) : bAnd x 255 = if w8 x < 0 then w8 x + 256 else w8 x := by
  have h : w8 x = (Int32.ofInt x).toInt8.toInt := by
    unfold w8
    simp
  rw [h, ← byte_z]
  rfl
theorem w8_rng (x : Int) : -128 ≤ w8 x ∧ w8 x ≤ 127 := by
  have h : w8 x = (Int32.ofInt x).toInt8.toInt := by
    unfold w8
    simp
  rw [h]
  have h1 := Int8.le_toInt (Int32.ofInt x).toInt8
  have h2 := Int8.toInt_lt (Int32.ofInt x).toInt8
  omega
