/-! bits of an int (the first rows as kit/laws/BITS.to-paste gives them) -/
def bt (x : Int32) (i : Nat) : Bool := x.toBitVec.getLsbD i
theorem b_ext {x y : Int32} (h : ∀ i, i < 32 → bt x i = bt y i) : x = y := Int32.toBitVec_inj.mp (BitVec.eq_of_getLsbD_eq (fun i hi => h i hi))
theorem b_or (x y : Int32) (i : Nat) : bt (x ||| y) i = (bt x i || bt y i) := by unfold bt; rw [Int32.toBitVec_or, BitVec.getLsbD_or]
theorem b_and (x y : Int32) (i : Nat) : bt (x &&& y) i = (bt x i && bt y i) := by unfold bt; rw [Int32.toBitVec_and, BitVec.getLsbD_and]
theorem b_xor (x y : Int32) (i : Nat) : bt (x ^^^ y) i = (bt x i ^^ bt y i) := by unfold bt; rw [Int32.toBitVec_xor, BitVec.getLsbD_xor]
theorem b_big {x : Int32} {i : Nat} (h : 32 ≤ i) : bt x i = false := BitVec.getLsbD_of_ge _ _ h
theorem b_m1 : ∀ i, i < 32 → bt (-1) i = true := by decide +kernel
theorem b_0 (i : Nat) : bt 0 i = false := BitVec.getLsbD_zero
theorem s_l : ∀ n, n < 32 → ((nI n &&& 31).toBitVec.smod 32).toNat = n := by decide +kernel
theorem b_shl (n : Nat) (hn : n < 32) (x : Int32) {i : Nat} (hi : i < 32) : bt (x <<< (nI n &&& 31)) i = (decide (n ≤ i) && bt x (i - n)) := by
  unfold bt
  rw [Int32.toBitVec_shiftLeft]
  show (x.toBitVec <<< ((nI n &&& 31).toBitVec.smod 32).toNat).getLsbD i = _
  rw [s_l n hn, BitVec.getLsbD_shiftLeft]
  rcases Nat.lt_or_ge i n with h | h
  · simp [h, Nat.not_le.mpr h]
  · simp [hi, h, Nat.not_lt.mpr h]
theorem b_sshr (n : Nat) (hn : n < 32) (x : Int32) {i : Nat} (hi : i < 32) : bt (x >>> (nI n &&& 31)) i = if n + i < 32 then bt x (n + i) else bt x 31 := by
  unfold bt
  rw [Int32.toBitVec_shiftRight]
  show (x.toBitVec.sshiftRight ((nI n &&& 31).toBitVec.smod 32).toNat).getLsbD i = _
  rw [s_l n hn, BitVec.getLsbD_sshiftRight, BitVec.msb_eq_getLsbD_last]
  simp [hi]
def tb (x : Int) (i : Nat) : Bool := bt (Int32.ofInt x) i
theorem tb_big {x : Int} {i : Nat} (h : 32 ≤ i) : tb x i = false := b_big h
theorem tb_and (x y : Int) (i : Nat) : tb (bAnd x y) i = (tb x i && tb y i) := by
  unfold tb bAnd; rw [Int32.ofInt_toInt, b_and]
theorem tb_or (x y : Int) (i : Nat) : tb (bOr x y) i = (tb x i || tb y i) := by
  unfold tb bOr; rw [Int32.ofInt_toInt, b_or]
theorem tb_xor (x y : Int) (i : Nat) : tb (bXor x y) i = (tb x i ^^ tb y i) := by
  unfold tb bXor; rw [Int32.ofInt_toInt, b_xor]
theorem tb_0 (i : Nat) : tb 0 i = false := b_0 i
theorem tb_m1 {i : Nat} (h : i < 32) : tb (-1) i = true := b_m1 i h
theorem bt_1 : ∀ i, i < 32 → bt 1 i = decide (i = 0) := by decide +kernel
theorem tb_1 (i : Nat) : tb 1 i = decide (i = 0) := by
  rcases Nat.lt_or_ge i 32 with h | h
  · exact bt_1 i h
  · rw [tb_big h, decide_eq_false (by omega)]
theorem tb_shl {j : Nat} (hj : j < 32) (i : Nat) : tb (bShl 1 (j : Int)) i = decide (i = j) := by
  rcases Nat.lt_or_ge i 32 with h | h
  · unfold tb bShl
    rw [Int32.ofInt_toInt, ← i32_nat, show Int32.ofNat j = nI j from rfl, b_shl j hj _ h]
    rcases Nat.lt_or_ge i j with q | q
    · rw [decide_eq_false (by omega), decide_eq_false (by omega)]; rfl
    · rw [decide_eq_true q, Bool.true_and]
      have := bt_1 (i - j) (by omega)
      rw [show Int32.ofInt 1 = 1 from rfl, this]
      by_cases z : i = j
      · rw [decide_eq_true z, decide_eq_true (by omega)]
      · rw [decide_eq_false z, decide_eq_false (by omega)]
  · rw [tb_big h, decide_eq_false (by omega)]
theorem tb_ext {x y : Int} (hx : wr x = x) (hy : wr y = y) (h : ∀ i, i < 32 → tb x i = tb y i) : x = y := by
  have : Int32.ofInt x = Int32.ofInt y := b_ext h
  rw [← hx, ← hy]
  unfold wr
  rw [this]
theorem wr_and (x y : Int) : wr (bAnd x y) = bAnd x y := wr_t _
theorem wr_or (x y : Int) : wr (bOr x y) = bOr x y := wr_t _
theorem wr_shl (x y : Int) : wr (bShl x y) = bShl x y := wr_t _
theorem wr_zero : wr 0 = 0 := wr_of (by decide) (by decide)
theorem z_iff {x : Int} (hx : wr x = x) : x = 0 ↔ ∀ i, i < 32 → tb x i = false := by
  constructor
  · rintro rfl i _; exact tb_0 i
  · intro h; exact tb_ext hx wr_zero (fun i hi => by rw [h i hi, tb_0])
theorem and_z (x y : Int) : bAnd x y = 0 ↔ ∀ i, i < 32 → ¬ (tb x i = true ∧ tb y i = true) := by
  rw [z_iff (wr_and x y)]
  constructor
  · intro h i hi q
    have := h i hi
    rw [tb_and, q.1, q.2] at this
    cases this
  · intro h i hi
    rw [tb_and]
    have := h i hi
    cases h1 : tb x i <;> cases h2 : tb y i <;> simp_all
theorem and_bit {j : Nat} (hj : j < 32) (x : Int) : bAnd x (bShl 1 (j : Int)) = 0 ↔ tb x j = false := by
  rw [and_z]
  constructor
  · intro h
    have := h j hj
    rw [tb_shl hj, decide_eq_true rfl] at this
    cases h1 : tb x j
    · rfl
    · exact absurd ⟨h1, rfl⟩ this
  · intro h i hi q
    rw [tb_shl hj] at q
    have := of_decide_eq_true q.2
    subst this
    rw [h] at q
    cases q.1
theorem shr_bit {j : Nat} (hj : j < 32) (x : Int) : bAnd (bShr x (j : Int)) 1 = if tb x j = true then 1 else 0 := by
  refine tb_ext (wr_and _ _) (by split <;> exact wr_of (by decide) (by decide)) (fun i hi => ?_)
  rw [tb_and, tb_1]
  by_cases z : i = 0
  · subst z
    rw [decide_eq_true rfl, Bool.and_true]
    have : tb (bShr x (j : Int)) 0 = tb x j := by
      unfold tb bShr
      rw [Int32.ofInt_toInt, ← i32_nat, show Int32.ofNat j = nI j from rfl, b_sshr j hj _ (by decide), Nat.add_zero, if_pos hj]
    rw [this]
    cases tb x j
    · rfl
    · rfl
  · rw [decide_eq_false z, Bool.and_false]
    split
    · rw [tb_1, decide_eq_false z]
    · rw [tb_0]
theorem tb_nat {d : Nat} (h : d < 4294967296) (i : Nat) : tb (d : Int) i = d.testBit i := by
  unfold tb bt
  rw [← i32_nat]
  show (BitVec.ofNat 32 d).getLsbD i = _
  rw [BitVec.getLsbD_ofNat]
  rcases Nat.lt_or_ge i 32 with q | q
  · rw [decide_eq_true q, Bool.true_and]
  · rw [decide_eq_false (by omega), Bool.false_and]
    exact (Nat.testBit_lt_two_pow (Nat.lt_of_lt_of_le h (Nat.pow_le_pow_right (n := 2) (by decide) q))).symm
theorem t1023 : ∀ i, i < 32 → tb 1023 i = decide (i < 10) := by decide +kernel
