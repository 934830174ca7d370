/-! how many bits -/
theorem s_u : ∀ n, n < 32 → (((nI n).toUInt32 &&& Int32.toUInt32 31).toBitVec % 32).toNat = n := by decide +kernel
theorem b_ushr (n : Nat) (hn : n < 32) (x : Int32) (i : Nat) : bt ((x.toUInt32 >>> ((nI n).toUInt32 &&& Int32.toUInt32 31)).toInt32) i = bt x (n + i) := by
  show (x.toUInt32 >>> ((nI n).toUInt32 &&& Int32.toUInt32 31)).toBitVec.getLsbD i = x.toUInt32.toBitVec.getLsbD (n + i)
  rw [UInt32.toBitVec_shiftRight]
  show (x.toUInt32.toBitVec >>> (((nI n).toUInt32 &&& Int32.toUInt32 31).toBitVec % 32).toNat).getLsbD i = _
  rw [s_u n hn, BitVec.getLsbD_ushiftRight]
def un (x : Int) : Nat := (Int32.ofInt x).toBitVec.toNat
theorem un_lt (x : Int) : un x < 4294967296 := (Int32.ofInt x).toBitVec.isLt
theorem un_tb (x : Int) (i : Nat) : (un x).testBit i = tb x i := rfl
theorem un_and (x y : Int) : un (bAnd x y) = un x &&& un y := by
  apply Nat.eq_of_testBit_eq
  intro i
  rw [Nat.testBit_and, un_tb, un_tb, un_tb, tb_and]
theorem tb_ushr {k : Nat} (hk : k < 32) (x : Int) (i : Nat) : tb (bUshr x (k : Int)) i = tb x (k + i) := by
  unfold tb bUshr
  rw [Int32.ofInt_toInt, ← i32_nat, show Int32.ofNat k = nI k from rfl, b_ushr k hk]
theorem un_ushr {k : Nat} (hk : k < 32) (x : Int) : un (bUshr x (k : Int)) = un x / 2 ^ k := by
  rw [← Nat.shiftRight_eq_div_pow]
  apply Nat.eq_of_testBit_eq
  intro i
  rw [Nat.testBit_shiftRight, un_tb, un_tb, tb_ushr hk]
theorem un_add (x y : Int) : un (x + y) = (un x + un y) % 4294967296 := by
  unfold un
  rw [Int32.ofInt_add, Int32.toBitVec_add, BitVec.toNat_add]
theorem un_sub {x y : Int} (h : un y ≤ un x) : un (x - y) = un x - un y := by
  have h1 := un_lt x
  unfold un at *
  rw [Int32.ofInt_sub, Int32.toBitVec_sub, BitVec.toNat_sub]
  omega
theorem un_wr (x : Int) : un (wr x) = un x := by unfold un; rw [i32_wr]
theorem un_val {x : Int} (hx : wr x = x) (h : un x < 2147483648) : x = (un x : Int) := by
  have h1 : (Int32.ofInt x).toBitVec.toInt = ((Int32.ofInt x).toBitVec.toNat : Int) := BitVec.toInt_eq_toNat_of_lt (by unfold un at h; omega)
  have h2 : (Int32.ofInt x).toInt = x := hx
  rw [← h2]
  unfold un
  rw [Int32.ofInt_toInt]
  exact h1
theorem and_step {r R : Nat} (hr : r < 256) (hR : R < 256) (q Q : Nat) : (r + 256 * q) &&& (R + 256 * Q) = (r &&& R) + 256 * (q &&& Q) := by
  have h1 : ((r + 256 * q) &&& (R + 256 * Q)) % 2 ^ 8 = r &&& R := by
    rw [Nat.and_mod_two_pow]
    congr 1 <;> omega
  have h2 : ((r + 256 * q) &&& (R + 256 * Q)) / 2 ^ 8 = q &&& Q := by
    rw [Nat.and_div_two_pow]
    congr 1 <;> omega
  have h3 := Nat.mod_add_div ((r + 256 * q) &&& (R + 256 * Q)) (2 ^ 8)
  rw [h1, h2] at h3
  omega
theorem and4 {a b c d m : Nat} (ha : a < 256) (hb : b < 256) (hc : c < 256) (hd : d < 256) (hm : m < 256) : (a + 256 * (b + 256 * (c + 256 * d))) &&& (m + 256 * (m + 256 * (m + 256 * m))) = (a &&& m) + 256 * ((b &&& m) + 256 * ((c &&& m) + 256 * (d &&& m))) := by
  rw [and_step ha hm, and_step hb hm, and_step hc hm]
def b1 (b : Nat) : Nat := b - (b / 2 &&& 85)
def b2 (b : Nat) : Nat := (b1 b &&& 51) + (b1 b / 4 &&& 51)
def b3 (b : Nat) : Nat := b2 b % 16 + b2 b / 16
theorem by_1 : ∀ c, c < 128 → ∀ e, e < 2 → (c + 128 * e) &&& 85 = c &&& 85 := by decide +kernel
theorem by_2 : ∀ c, c < 64 → ∀ e, e < 4 → (c + 64 * e) &&& 51 = c &&& 51 := by decide +kernel
theorem by_3 : ∀ c, c < 256 → c &&& 15 = c % 16 := by decide +kernel
theorem by_4 : ∀ b, b < 256 → (b / 2 &&& 85) ≤ b ∧ b1 b < 256 ∧ b2 b < 69 ∧ b2 b % 16 ≤ 4 ∧ b3 b ≤ 8 := by decide +kernel
theorem by_5 : ∀ b, b < 256 → b3 b = fb_ct (fun i => b.testBit i) 8 := by decide +kernel
def pcN (u : Nat) : Nat :=
  let s1 := u - (u / 2 &&& 1431655765)
  let s2 := (s1 &&& 858993459) + (s1 / 4 &&& 858993459)
  let s3 := (s2 + s2 / 16) &&& 252645135
  let s4 := s3 + s3 / 256
  let s5 := s4 + s4 / 65536
  s5 &&& 63
theorem pcN_1 {a b c d : Nat} (ha : a < 256) (hb : b < 256) (hc : c < 256) (hd : d < 256) : (a + 256 * (b + 256 * (c + 256 * d))) / 2 &&& 1431655765 = (a / 2 &&& 85) + 256 * ((b / 2 &&& 85) + 256 * ((c / 2 &&& 85) + 256 * (d / 2 &&& 85))) := by
  have e : (a + 256 * (b + 256 * (c + 256 * d))) / 2 = (a / 2 + 128 * (b % 2)) + 256 * ((b / 2 + 128 * (c % 2)) + 256 * ((c / 2 + 128 * (d % 2)) + 256 * (d / 2))) := by omega
  rw [e, show 1431655765 = 85 + 256 * (85 + 256 * (85 + 256 * 85)) from rfl, and4 (by omega) (by omega) (by omega) (by omega) (by decide), by_1 _ (by omega) _ (by omega), by_1 _ (by omega) _ (by omega), by_1 _ (by omega) _ (by omega)]
theorem pcN_2 {a b c d : Nat} (ha : a < 256) (hb : b < 256) (hc : c < 256) (hd : d < 256) : ((a + 256 * (b + 256 * (c + 256 * d))) &&& 858993459) + ((a + 256 * (b + 256 * (c + 256 * d))) / 4 &&& 858993459) = ((a &&& 51) + (a / 4 &&& 51)) + 256 * (((b &&& 51) + (b / 4 &&& 51)) + 256 * (((c &&& 51) + (c / 4 &&& 51)) + 256 * ((d &&& 51) + (d / 4 &&& 51)))) := by
  have e : (a + 256 * (b + 256 * (c + 256 * d))) / 4 = (a / 4 + 64 * (b % 4)) + 256 * ((b / 4 + 64 * (c % 4)) + 256 * ((c / 4 + 64 * (d % 4)) + 256 * (d / 4))) := by omega
  rw [e, show 858993459 = 51 + 256 * (51 + 256 * (51 + 256 * 51)) from rfl, and4 ha hb hc hd (by decide), and4 (by omega) (by omega) (by omega) (by omega) (by decide), by_2 _ (by omega) _ (by omega), by_2 _ (by omega) _ (by omega), by_2 _ (by omega) _ (by omega)]
  omega
theorem by_6 {a : Nat} (h : a < 69) (h2 : a % 16 ≤ 4) (e : Nat) : (a + a / 16 + 16 * e) % 16 = a % 16 + a / 16 := by omega
theorem pcN_3 {a b c d : Nat} (ha : a < 69) (hb : b < 69) (hc : c < 69) (hd : d < 69) (ha2 : a % 16 ≤ 4) (hb2 : b % 16 ≤ 4) (hc2 : c % 16 ≤ 4) (hd2 : d % 16 ≤ 4) : ((a + 256 * (b + 256 * (c + 256 * d))) + (a + 256 * (b + 256 * (c + 256 * d))) / 16) &&& 252645135 = (a % 16 + a / 16) + 256 * ((b % 16 + b / 16) + 256 * ((c % 16 + c / 16) + 256 * (d % 16 + d / 16))) := by
  have e : (a + 256 * (b + 256 * (c + 256 * d))) + (a + 256 * (b + 256 * (c + 256 * d))) / 16 = (a + a / 16 + 16 * (b % 16)) + 256 * ((b + b / 16 + 16 * (c % 16)) + 256 * ((c + c / 16 + 16 * (d % 16)) + 256 * (d + d / 16))) := by omega
  rw [e, show 252645135 = 15 + 256 * (15 + 256 * (15 + 256 * 15)) from rfl, and4 (by omega) (by omega) (by omega) (by omega) (by decide), by_3 _ (by omega), by_3 _ (by omega), by_3 _ (by omega), by_3 _ (by omega), by_6 ha ha2 _, by_6 hb hb2 _, by_6 hc hc2 _]
  have := by_6 hd hd2 0
  rw [Nat.mul_zero, Nat.add_zero] at this
  rw [this]
theorem pcN_4 {x y z w : Nat} (hx : x ≤ 8) (hy : y ≤ 8) (hz : z ≤ 8) (hw : w ≤ 8) : (x + 256 * (y + 256 * (z + 256 * w))) + (x + 256 * (y + 256 * (z + 256 * w))) / 256 = (x + y) + 256 * ((y + z) + 256 * ((z + w) + 256 * w)) := by omega
theorem pcN_5 {x y z w : Nat} (hx : x ≤ 8) (hy : y ≤ 8) (hz : z ≤ 8) (hw : w ≤ 8) : (((x + y) + 256 * ((y + z) + 256 * ((z + w) + 256 * w))) + ((x + y) + 256 * ((y + z) + 256 * ((z + w) + 256 * w))) / 65536) % 64 = x + y + z + w := by
  have e : ((x + y) + 256 * ((y + z) + 256 * ((z + w) + 256 * w))) / 65536 = (z + w) + 256 * w := by omega
  rw [e]
  omega
theorem ct_split (f : Nat → Bool) (m : Nat) : ∀ n, fb_ct f (m + n) = fb_ct f m + fb_ct (fun k => f (m + k)) n
  | 0 => rfl
  | n + 1 => by
    have h := ct_split f m n
    show fb_ct f (m + n + 1) = _
    rw [fb_ct_succ, fb_ct_succ, h, Nat.add_assoc]
theorem pcN_eq {u : Nat} (hu : u < 4294967296) : pcN u = fb_ct (fun i => u.testBit i) 32 := by
  obtain ⟨a, ha⟩ : ∃ a, a = u % 256 := ⟨_, rfl⟩
  obtain ⟨b, hb⟩ : ∃ b, b = u / 256 % 256 := ⟨_, rfl⟩
  obtain ⟨c, hc⟩ : ∃ c, c = u / 65536 % 256 := ⟨_, rfl⟩
  obtain ⟨d, hd⟩ : ∃ d, d = u / 16777216 := ⟨_, rfl⟩
  have e : u = a + 256 * (b + 256 * (c + 256 * d)) := by omega
  have ba := by_4 a (by omega)
  have bb := by_4 b (by omega)
  have bc := by_4 c (by omega)
  have bd := by_4 d (by omega)
  have hR : fb_ct (fun i => u.testBit i) 32 = b3 a + b3 b + b3 c + b3 d := by
    have bit : ∀ k, ∀ j, (u / 2 ^ k % 256).testBit j = (decide (j < 8) && u.testBit (k + j)) := fun k j => by
      rw [show (256 : Nat) = 2 ^ 8 from rfl, Nat.testBit_mod_two_pow, ← Nat.shiftRight_eq_div_pow, Nat.testBit_shiftRight]
    have q : ∀ k, fb_ct (fun i => u.testBit (k + i)) 8 = fb_ct (fun i => (u / 2 ^ k % 256).testBit i) 8 := fun k => fb_ct_cong (fun j hj => by rw [bit k j, decide_eq_true hj, Bool.true_and])
    rw [show (32 : Nat) = 8 + 24 from rfl, ct_split, show (24 : Nat) = 8 + 16 from rfl, ct_split, show (16 : Nat) = 8 + 8 from rfl, ct_split]
    have q0 := q 0
    have q1 := q 8
    have q2 := q 16
    have q3 := q 24
    simp only [Nat.zero_add] at q0
    rw [q0, q1, show (fun k => u.testBit (8 + (8 + k))) = (fun k => u.testBit (16 + k)) from funext fun k => by rw [← Nat.add_assoc], q2, show (fun k => u.testBit (8 + (8 + (8 + k)))) = (fun k => u.testBit (24 + k)) from funext fun k => by rw [← Nat.add_assoc, ← Nat.add_assoc], q3]
    rw [show u / 2 ^ 0 % 256 = a by rw [ha]; simp, show u / 2 ^ 8 % 256 = b by rw [hb], show u / 2 ^ 16 % 256 = c by rw [hc], show u / 2 ^ 24 % 256 = d by rw [hd]; omega, by_5 a (by omega), by_5 b (by omega), by_5 c (by omega), by_5 d (by omega)]
    omega
  rw [hR]
  have p1 := pcN_1 (a := a) (b := b) (c := c) (d := d) (by omega) (by omega) (by omega) (by omega)
  have p2 := pcN_2 (a := b1 a) (b := b1 b) (c := b1 c) (d := b1 d) (by omega) (by omega) (by omega) (by omega)
  have p3 := pcN_3 (a := b2 a) (b := b2 b) (c := b2 c) (d := b2 d) (by omega) (by omega) (by omega) (by omega) (by omega) (by omega) (by omega) (by omega)
  have s1 : u - (u / 2 &&& 1431655765) = b1 a + 256 * (b1 b + 256 * (b1 c + 256 * b1 d)) := by
    rw [e, p1]
    unfold b1
    omega
  unfold pcN
  simp only [s1, p2]
  rw [show ((b1 a &&& 51) + (b1 a / 4 &&& 51)) + 256 * (((b1 b &&& 51) + (b1 b / 4 &&& 51)) + 256 * (((b1 c &&& 51) + (b1 c / 4 &&& 51)) + 256 * ((b1 d &&& 51) + (b1 d / 4 &&& 51)))) = b2 a + 256 * (b2 b + 256 * (b2 c + 256 * b2 d)) from rfl, p3]
  rw [show (b2 a % 16 + b2 a / 16) + 256 * ((b2 b % 16 + b2 b / 16) + 256 * ((b2 c % 16 + b2 c / 16) + 256 * (b2 d % 16 + b2 d / 16))) = b3 a + 256 * (b3 b + 256 * (b3 c + 256 * b3 d)) from rfl]
  rw [show (63 : Nat) = 2 ^ 6 - 1 from rfl, Nat.and_two_pow_sub_one_eq_mod]
  rw [pcN_4 ba.2.2.2.2 bb.2.2.2.2 bc.2.2.2.2 bd.2.2.2.2]
  exact pcN_5 ba.2.2.2.2 bb.2.2.2.2 bc.2.2.2.2 bd.2.2.2.2
set_option maxRecDepth 100000 in
theorem bitc_all (G : GS) (x : Int) : f_Integer_bitCount G x = some (fb_ct (tb x) 32 : Int) := by
  have hu := un_lt x
  unfold f_Integer_bitCount
  obtain ⟨x1, h1⟩ : ∃ x1, x1 = wr (x - bAnd (bUshr x 1) 1431655765) := ⟨_, rfl⟩
  rw [← h1]
  obtain ⟨x2, h2⟩ : ∃ x2, x2 = wr (bAnd x1 858993459 + bAnd (bUshr x1 2) 858993459) := ⟨_, rfl⟩
  rw [← h2]
  obtain ⟨x3, h3⟩ : ∃ x3, x3 = bAnd (x2 + bUshr x2 4) 252645135 := ⟨_, rfl⟩
  rw [← h3]
  obtain ⟨x4, h4⟩ : ∃ x4, x4 = wr (x3 + bUshr x3 8) := ⟨_, rfl⟩
  rw [← h4]
  have m1 : un 1431655765 = 1431655765 := by decide
  have m2 : un 858993459 = 858993459 := by decide
  have m3 : un 252645135 = 252645135 := by decide
  have m4 : un 63 = 63 := by decide
  have k1 : ∀ y, un (bUshr y 1) = un y / 2 := fun y => un_ushr (k := 1) (by decide) y
  have k2 : ∀ y, un (bUshr y 2) = un y / 4 := fun y => un_ushr (k := 2) (by decide) y
  have k4 : ∀ y, un (bUshr y 4) = un y / 16 := fun y => un_ushr (k := 4) (by decide) y
  have k8 : ∀ y, un (bUshr y 8) = un y / 256 := fun y => un_ushr (k := 8) (by decide) y
  have k16 : ∀ y, un (bUshr y 16) = un y / 65536 := fun y => un_ushr (k := 16) (by decide) y
  have a1 : un x / 2 &&& 1431655765 ≤ un x / 2 := Nat.and_le_left
  have u1 : un x1 = un x - (un x / 2 &&& 1431655765) := by
    rw [h1, un_wr, un_sub (by rw [un_and, k1, m1]; omega), un_and, k1, m1]
  have a2 : un x1 &&& 858993459 ≤ 858993459 := Nat.and_le_right
  have a3 : un x1 / 4 &&& 858993459 ≤ 858993459 := Nat.and_le_right
  have u2 : un x2 = (un x1 &&& 858993459) + (un x1 / 4 &&& 858993459) := by
    rw [h2, un_wr, un_add, un_and, un_and, k2, m2]
    omega
  have u3 : un x3 = (un x2 + un x2 / 16) &&& 252645135 := by
    rw [h3, un_and, un_add, k4, m3, Nat.mod_eq_of_lt (by omega)]
  have a5 : un x3 ≤ 252645135 := by rw [u3]; exact Nat.and_le_right
  have u4 : un x4 = un x3 + un x3 / 256 := by
    rw [h4, un_wr, un_add, k8]
    omega
  have u5 : un (bAnd (wr (x4 + bUshr x4 16)) 63) = (un x4 + un x4 / 65536) &&& 63 := by
    rw [un_and, un_wr, un_add, k16, m4, Nat.mod_eq_of_lt (by omega)]
  have hp : un (bAnd (wr (x4 + bUshr x4 16)) 63) = pcN (un x) := by
    rw [u5, u4, u3, u2, u1]
    rfl
  rw [pcN_eq hu] at hp
  have hle := fb_ct_le (fun i => (un x).testBit i) 32
  congr 1
  rw [un_val (wr_and _ _) (by rw [hp]; omega), hp]
  rfl
