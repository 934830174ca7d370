/-! fractions, and the greatest number that divides both -/
theorem mod_half {w r : Nat} (hr : 0 < r) (h : r ≤ w) : 2 * (w % r) < w := by
  have h1 := Nat.mod_add_div w r
  have h2 : 1 ≤ w / r := (Nat.one_le_div_iff hr).mpr h
  have h3 : r ≤ r * (w / r) := Nat.le_mul_of_pos_right r h2
  have h4 := Nat.mod_lt w hr
  omega
theorem lc_z {x : Nat} (h : x < 9223372036854775808) : lc (x : Int) 0 = if x = 0 then 0 else 1 := by
  rw [lc_spec (wl_of (by omega) (by omega)) (wl_of (by omega) (by omega))]
  by_cases c : x = 0
  · subst c; rfl
  · rw [if_pos (by omega), if_neg c]
theorem lmd_nat {x y : Nat} (hx : x < 9223372036854775808) (hy : 0 < y) (hy2 : y < 9223372036854775808) : lmd (x : Int) (y : Int) = ((x % y : Nat) : Int) := by
  rw [lmd_nn (by omega) (by omega) (by omega) (by omega)]
  rfl
theorem ldv_nat {x y : Nat} (hx : x < 9223372036854775808) (hy : 0 < y) (hy2 : y < 9223372036854775808) : ldv (x : Int) (y : Int) = ((x / y : Nat) : Int) := by
  rw [ldv_nn (by omega) (by omega) (by omega) (by omega)]
  rfl
theorem gcd_step (v w : Nat) : Nat.gcd v w = Nat.gcd w (v % w) := by
  rw [Nat.gcd_comm v w, Nat.gcd_rec w v, Nat.gcd_comm]
theorem mcom_L {G : GS} : ∀ (m n : Nat) (v w : Nat), w < 2 ^ m → v < 9223372036854775808 → w < 9223372036854775808 → 2 * m + 1 ≤ n → f_Model_common_L6 G n (v : Int) (w : Int) = some ((Nat.gcd v w : Nat) : Int) := by
  intro m
  induction m with
  | zero =>
    intro n v w h1 h2 h3 h4
    have : w = 0 := by omega
    subst this
    obtain ⟨n', rfl⟩ : ∃ n', n = n' + 1 := ⟨n - 1, by omega⟩
    simp only [f_Model_common_L6, lc_z h3, if_true, Nat.gcd_zero_right]
  | succ m ih =>
    intro n v w h1 h2 h3 h4
    have hp : (2 : Nat) ^ (m + 1) = 2 * 2 ^ m := by rw [Nat.pow_succ, Nat.mul_comm]
    obtain ⟨n', rfl⟩ : ∃ n', n = n' + 1 + 1 := ⟨n - 2, by omega⟩
    by_cases c : w = 0
    · subst c
      simp only [f_Model_common_L6, lc_z h3, if_true, Nat.gcd_zero_right]
    · have r1 := Nat.mod_lt v (show 0 < w by omega)
      rw [gcd_step v w]
      rw [f_Model_common_L6]
      simp only [lc_z h3, if_neg c, if_neg (show ¬ (1 : Int) = 0 by decide), gd, if_pos (show ¬ (w : Int) = 0 by omega), lmd_nat h2 (show 0 < w by omega) h3]
      by_cases d : v % w = 0
      · rw [d]
        simp only [f_Model_common_L6, lc_z (show 0 < 9223372036854775808 by decide), if_true, Nat.gcd_zero_right]
      · have r2 := mod_half (show 0 < v % w by omega) (show v % w ≤ w by omega)
        rw [gcd_step w (v % w)]
        rw [f_Model_common_L6]
        simp only [lc_z (show v % w < 9223372036854775808 by omega), if_neg d, if_neg (show ¬ (1 : Int) = 0 by decide), gd, if_pos (show ¬ ((v % w : Nat) : Int) = 0 by omega), lmd_nat h3 (show 0 < v % w by omega) (by omega)]
        exact ih n' (v % w) (w % (v % w)) (by omega) (by omega) (by omega) (by omega)
theorem mcom {G : GS} {v w : Nat} (hv : v < 9223372036854775808) (hw : w < 9223372036854775808) : f_Model_common G (v : Int) (w : Int) = some ((Nat.gcd v w : Nat) : Int) := mcom_L 63 FU v w (by omega) hv hw (by unfold FU; omega)
theorem ccom_L {G : GS} : ∀ (m n : Nat) (v w k : Nat), w < 2 ^ m → v < 9223372036854775808 → w < 9223372036854775808 → 2 * m + 1 ≤ n → k + 2 * m + 1 ≤ 200 → f_Descent_commonPart_L9 G n (v : Int) (w : Int) (k : Int) = some (max 1 ((Nat.gcd v w : Nat) : Int)) := by
  intro m
  induction m with
  | zero =>
    intro n v w k h1 h2 h3 h4 h5
    have : w = 0 := by omega
    subst this
    obtain ⟨n', rfl⟩ : ∃ n', n = n' + 1 := ⟨n - 1, by omega⟩
    simp only [f_Descent_commonPart_L9, if_neg (show ¬ (200 : Int) ≤ k by omega), lc_z h3, if_true, Nat.gcd_zero_right, f_Descent_commonPart_L45]
  | succ m ih =>
    intro n v w k h1 h2 h3 h4 h5
    have hp : (2 : Nat) ^ (m + 1) = 2 * 2 ^ m := by rw [Nat.pow_succ, Nat.mul_comm]
    have hw1 : wr ((k : Int) + 1) = ((k + 1 : Nat) : Int) := by rw [wr_of (by omega) (by omega)]; omega
    have hw2 : wr (((k + 1 : Nat) : Int) + 1) = ((k + 2 : Nat) : Int) := by rw [wr_of (by omega) (by omega)]; omega
    obtain ⟨n', rfl⟩ : ∃ n', n = n' + 1 + 1 := ⟨n - 2, by omega⟩
    by_cases c : w = 0
    · subst c
      simp only [f_Descent_commonPart_L9, if_neg (show ¬ (200 : Int) ≤ k by omega), lc_z h3, if_true, Nat.gcd_zero_right, f_Descent_commonPart_L45]
    · have r1 := Nat.mod_lt v (show 0 < w by omega)
      rw [gcd_step v w]
      rw [f_Descent_commonPart_L9]
      simp only [if_neg (show ¬ (200 : Int) ≤ k by omega), lc_z h3, if_neg c, if_neg (show ¬ (1 : Int) = 0 by decide), gd, if_pos (show ¬ (w : Int) = 0 by omega), lmd_nat h2 (show 0 < w by omega) h3, hw1]
      by_cases d : v % w = 0
      · rw [d]
        simp only [f_Descent_commonPart_L9, if_neg (show ¬ (200 : Int) ≤ ((k + 1 : Nat) : Int) by omega), lc_z (show 0 < 9223372036854775808 by decide), if_true, Nat.gcd_zero_right, f_Descent_commonPart_L45]
      · have r2 := mod_half (show 0 < v % w by omega) (show v % w ≤ w by omega)
        rw [gcd_step w (v % w)]
        rw [f_Descent_commonPart_L9]
        simp only [if_neg (show ¬ (200 : Int) ≤ ((k + 1 : Nat) : Int) by omega), lc_z (show v % w < 9223372036854775808 by omega), if_neg d, if_neg (show ¬ (1 : Int) = 0 by decide), gd, if_pos (show ¬ ((v % w : Nat) : Int) = 0 by omega), lmd_nat h3 (show 0 < v % w by omega) (by omega), hw2]
        exact ih n' (v % w) (w % (v % w)) (k + 2) (by omega) (by omega) (by omega) (by omega) (by omega)
theorem ccom {G : GS} {v w : Nat} (hv : v < 9223372036854775808) (hw : w < 9223372036854775808) (h0 : 0 < w) : f_Descent_commonPart G (v : Int) (w : Int) = some ((Nat.gcd v w : Nat) : Int) := by
  have := ccom_L (G := G) 63 FU v w 0 (by omega) hv hw (by unfold FU; omega) (by decide)
  have hp := Nat.gcd_pos_of_pos_right v h0
  rw [show max 1 ((Nat.gcd v w : Nat) : Int) = ((Nat.gcd v w : Nat) : Int) by omega] at this
  exact this
/-- a fraction in lowest terms -/
def Red (x : Nat × Nat) : Prop := 0 < x.2 ∧ Nat.Coprime x.1 x.2
def red (a b : Nat) : Nat × Nat := (a / Nat.gcd a b, b / Nat.gcd a b)
theorem red_s {a b : Nat} (hb : 0 < b) : Red (red a b) ∧ a * (red a b).2 = (red a b).1 * b := by
  have hg := Nat.gcd_pos_of_pos_right a hb
  obtain ⟨s, hs⟩ := Nat.gcd_dvd_left a b
  obtain ⟨t, ht⟩ := Nat.gcd_dvd_right a b
  have hc := Nat.coprime_div_gcd_div_gcd (m := a) (n := b) hg
  refine ⟨⟨?_, hc⟩, ?_⟩
  · exact Nat.div_pos (Nat.le_of_dvd hb (Nat.gcd_dvd_right a b)) hg
  · show a * (b / Nat.gcd a b) = a / Nat.gcd a b * b
    have e1 : a / Nat.gcd a b = s := Nat.div_eq_of_eq_mul_right hg hs
    have e2 : b / Nat.gcd a b = t := Nat.div_eq_of_eq_mul_right hg ht
    rw [e1, e2]
    generalize Nat.gcd a b = g at *
    rw [hs, ht]
    grind
theorem Red_one {x y : Nat × Nat} (hx : Red x) (hy : Red y) (h : x.1 * y.2 = y.1 * x.2) : x = y := by
  have h1 : x.2 ∣ y.2 := Nat.Coprime.dvd_of_dvd_mul_left hx.2.symm ⟨y.1, by rw [h, Nat.mul_comm]⟩
  have h2 : y.2 ∣ x.2 := Nat.Coprime.dvd_of_dvd_mul_left hy.2.symm ⟨x.1, by rw [← h, Nat.mul_comm]⟩
  have h3 := Nat.dvd_antisymm h1 h2
  rw [← h3] at h
  have h4 := Nat.eq_of_mul_eq_mul_right hx.1 h
  exact Prod.ext h4 h3
theorem red_eq {a b c d : Nat} (hb : 0 < b) (hd : 0 < d) (h : a * d = c * b) : red a b = red c d := by
  obtain ⟨x1, x2⟩ := red_s (a := a) hb
  obtain ⟨y1, y2⟩ := red_s (a := c) hd
  refine Red_one x1 y1 ?_
  generalize red a b = x at *
  generalize red c d = y at *
  have e : (x.1 * y.2) * (b * d) = (y.1 * x.2) * (b * d) := by
    have e1 : (x.1 * y.2) * (b * d) = (x.1 * b) * (y.2 * d) := by grind
    have e2 : (y.1 * x.2) * (b * d) = (y.1 * d) * (x.2 * b) := by grind
    rw [e1, e2, ← x2, ← y2]
    have e3 : a * x.2 * (y.2 * d) = (a * d) * (x.2 * y.2) := by grind
    have e4 : c * y.2 * (x.2 * b) = (c * b) * (x.2 * y.2) := by grind
    rw [e3, e4, h]
  exact Nat.eq_of_mul_eq_mul_right (Nat.mul_pos hb hd) e
theorem red_of {x : Nat × Nat} (h : Red x) : red x.1 x.2 = x := by
  have := red_s (a := x.1) h.1
  exact Red_one this.1 h (by rw [this.2.symm])
/-- one more part, in the reference, in the class -/
def frM (x y : Nat × Nat) : Nat × Nat := red (x.1 * y.2 + y.1 * x.2) (x.2 * y.2)
def frC (x y : Nat × Nat) : Nat × Nat := (x.1 * (y.2 / Nat.gcd x.2 y.2) + y.1 * (x.2 / Nat.gcd x.2 y.2), x.2 / Nat.gcd x.2 y.2 * y.2)
theorem frM_s {x y : Nat × Nat} (hx : 0 < x.2) (hy : 0 < y.2) : Red (frM x y) ∧ (x.1 * y.2 + y.1 * x.2) * (frM x y).2 = (frM x y).1 * (x.2 * y.2) := red_s (Nat.mul_pos hx hy)
theorem frM_d {x y : Nat × Nat} {M : Nat} (hx : 0 < x.2) (hy : 0 < y.2) (h1 : x.2 ∣ M) (h2 : y.2 ∣ M) : (frM x y).2 ∣ M := by
  obtain ⟨⟨z1, z2⟩, z3⟩ := frM_s hx hy
  generalize frM x y = z at *
  obtain ⟨m1, hm1⟩ := h1
  obtain ⟨m2, hm2⟩ := h2
  refine Nat.Coprime.dvd_of_dvd_mul_left z2.symm ?_
  refine ⟨m1 * x.1 + m2 * y.1, ?_⟩
  have hp := Nat.mul_pos hx hy
  refine Nat.eq_of_mul_eq_mul_right hp ?_
  have e1 : z.1 * M * (x.2 * y.2) = (z.1 * (x.2 * y.2)) * M := by grind
  rw [e1, ← z3]
  have e2 : (x.1 * y.2 + y.1 * x.2) * z.2 * M = x.1 * y.2 * z.2 * M + y.1 * x.2 * z.2 * M := by grind
  have e3 : x.1 * y.2 * z.2 * M = x.1 * y.2 * z.2 * (x.2 * m1) := by rw [← hm1]
  have e4 : y.1 * x.2 * z.2 * M = y.1 * x.2 * z.2 * (y.2 * m2) := by rw [← hm2]
  rw [e2, e3, e4]
  grind
theorem frM_b {x y : Nat × Nat} {k : Nat} (hx : 0 < x.2) (hy : 0 < y.2) (h1 : x.1 ≤ k * x.2) (h2 : y.1 ≤ y.2) : x.1 * y.2 + y.1 * x.2 ≤ (k + 1) * (x.2 * y.2) ∧ (frM x y).1 ≤ (k + 1) * (frM x y).2 := by
  have a1 : x.1 * y.2 ≤ k * x.2 * y.2 := Nat.mul_le_mul_right _ h1
  have a2 : y.1 * x.2 ≤ y.2 * x.2 := Nat.mul_le_mul_right _ h2
  have a3 : (k + 1) * (x.2 * y.2) = k * x.2 * y.2 + y.2 * x.2 := by grind
  have a4 : x.1 * y.2 + y.1 * x.2 ≤ (k + 1) * (x.2 * y.2) := by omega
  refine ⟨a4, ?_⟩
  obtain ⟨⟨z1, z2⟩, z3⟩ := frM_s hx hy
  generalize frM x y = z at *
  have hp := Nat.mul_pos hx hy
  refine Nat.le_of_mul_le_mul_right ?_ hp
  rw [← z3]
  have a5 : (x.1 * y.2 + y.1 * x.2) * z.2 ≤ (k + 1) * (x.2 * y.2) * z.2 := Nat.mul_le_mul_right _ a4
  have a6 : (k + 1) * (x.2 * y.2) * z.2 = (k + 1) * z.2 * (x.2 * y.2) := by grind
  omega
theorem frC_s {x y : Nat × Nat} (hx : 0 < x.2) (hy : 0 < y.2) : ∃ g s t, 0 < g ∧ 0 < s ∧ 0 < t ∧ g = Nat.gcd x.2 y.2 ∧ x.2 = g * s ∧ y.2 = g * t ∧ x.2 / Nat.gcd x.2 y.2 = s ∧ y.2 / Nat.gcd x.2 y.2 = t ∧ frC x y = (x.1 * t + y.1 * s, s * y.2) ∧ Nat.Coprime s t := by
  have hg := Nat.gcd_pos_of_pos_right x.2 hy
  obtain ⟨s, hs⟩ := Nat.gcd_dvd_left x.2 y.2
  obtain ⟨t, ht⟩ := Nat.gcd_dvd_right x.2 y.2
  have e1 : x.2 / Nat.gcd x.2 y.2 = s := Nat.div_eq_of_eq_mul_right hg hs
  have e2 : y.2 / Nat.gcd x.2 y.2 = t := Nat.div_eq_of_eq_mul_right hg ht
  have hc := Nat.coprime_div_gcd_div_gcd (m := x.2) (n := y.2) hg
  rw [e1, e2] at hc
  refine ⟨Nat.gcd x.2 y.2, s, t, hg, ?_, ?_, rfl, hs, ht, e1, e2, ?_, hc⟩
  · rcases Nat.eq_zero_or_pos s with z | z
    · rw [z, Nat.mul_zero] at hs; omega
    · exact z
  · rcases Nat.eq_zero_or_pos t with z | z
    · rw [z, Nat.mul_zero] at ht; omega
    · exact z
  · unfold frC
    rw [e1, e2]
theorem frC_d {x y : Nat × Nat} {M : Nat} (hx : 0 < x.2) (hy : 0 < y.2) (h1 : x.2 ∣ M) (h2 : y.2 ∣ M) : (frC x y).2 ∣ M ∧ 0 < (frC x y).2 := by
  obtain ⟨g, s, t, hg, hs, ht, -, e1, e2, -, -, e3, hc⟩ := frC_s hx hy
  rw [e3]
  refine ⟨?_, Nat.mul_pos hs hy⟩
  obtain ⟨m1, hm1⟩ := h1
  obtain ⟨m2, hm2⟩ := h2
  rw [e1] at hm1
  rw [e2] at hm2
  have h3 : g * (s * m1) = g * (t * m2) := by
    have a : g * (s * m1) = g * s * m1 := by grind
    have b : g * (t * m2) = g * t * m2 := by grind
    rw [a, b, ← hm1, ← hm2]
  have h4 := Nat.eq_of_mul_eq_mul_left hg h3
  have h5 : s ∣ m2 := Nat.Coprime.dvd_of_dvd_mul_left hc ⟨m1, h4.symm⟩
  obtain ⟨m3, hm3⟩ := h5
  refine ⟨m3, ?_⟩
  show M = s * y.2 * m3
  rw [hm2, hm3, e2]
  grind
theorem frC_b {x y : Nat × Nat} {k : Nat} (hx : 0 < x.2) (hy : 0 < y.2) (h1 : x.1 ≤ k * x.2) (h2 : y.1 ≤ y.2) : (frC x y).1 ≤ (k + 1) * (frC x y).2 ∧ (frC x y).2 ≤ x.2 * y.2 ∧ x.1 * (y.2 / Nat.gcd x.2 y.2) ≤ k * (x.2 * y.2) ∧ y.1 * (x.2 / Nat.gcd x.2 y.2) ≤ x.2 * y.2 := by
  obtain ⟨g, s, t, hg, hs, ht, -, e1, e2, e4, e5, e3, hc⟩ := frC_s hx hy
  rw [e3, e4, e5]
  have a1 : x.1 * t ≤ k * x.2 * t := Nat.mul_le_mul_right _ h1
  have a2 : y.1 * s ≤ y.2 * s := Nat.mul_le_mul_right _ h2
  have a3 : k * x.2 * t = k * (s * y.2) := by rw [e1, e2]; grind
  have a4 : (k + 1) * (s * y.2) = k * (s * y.2) + y.2 * s := by grind
  have a5 : s * y.2 ≤ x.2 * y.2 := Nat.mul_le_mul_right _ (by rw [e1]; exact Nat.le_mul_of_pos_left s hg)
  have a6 : k * (s * y.2) ≤ k * (x.2 * y.2) := Nat.mul_le_mul_left _ a5
  have a7 : y.2 * s = s * y.2 := Nat.mul_comm _ _
  refine ⟨?_, a5, by omega, by omega⟩
  show x.1 * t + y.1 * s ≤ (k + 1) * (s * y.2)
  omega
/-- both add alike -/
theorem fr_same {x x' y : Nat × Nat} (hx : 0 < x.2) (hx' : 0 < x'.2) (hy : 0 < y.2) (h : x.1 * x'.2 = x'.1 * x.2) : (frM x y).1 * (frC x' y).2 = (frC x' y).1 * (frM x y).2 := by
  obtain ⟨⟨z1, z2⟩, z3⟩ := frM_s hx hy
  generalize frM x y = z at *
  obtain ⟨g, s, t, hg, hs, ht, -, e1, e2, -, -, e3, hc⟩ := frC_s hx' hy
  rw [e3]
  show z.1 * (s * y.2) = (x'.1 * t + y.1 * s) * z.2
  have hp := Nat.mul_pos hx hy
  refine Nat.eq_of_mul_eq_mul_right hp ?_
  have a1 : z.1 * (s * y.2) * (x.2 * y.2) = (z.1 * (x.2 * y.2)) * (s * y.2) := by grind
  rw [a1, ← z3]
  have a2 : (x.1 * y.2 + y.1 * x.2) * z.2 * (s * y.2) = x.1 * (g * s) * t * y.2 * z.2 + y.1 * x.2 * z.2 * (s * y.2) := by
    have : x.1 * y.2 * z.2 * (s * y.2) = x.1 * (g * s) * t * y.2 * z.2 := by
      have q : x.1 * y.2 * z.2 * (s * y.2) = x.1 * y.2 * z.2 * (s * (g * t)) := by rw [← e2]
      rw [q]; grind
    rw [← this]; grind
  rw [a2, ← e1, h]
  grind
theorem fr_zero {x x' y : Nat × Nat} (hx : 0 < x.2) (hy : 0 < y.2) (h0 : y.1 = 0) (h : x.1 * x'.2 = x'.1 * x.2) : (frM x y).1 * x'.2 = x'.1 * (frM x y).2 := by
  obtain ⟨⟨z1, z2⟩, z3⟩ := frM_s hx hy
  generalize frM x y = z at *
  rw [h0, Nat.zero_mul, Nat.add_zero] at z3
  have hp := Nat.mul_pos hx hy
  refine Nat.eq_of_mul_eq_mul_right hp ?_
  have a1 : z.1 * x'.2 * (x.2 * y.2) = (z.1 * (x.2 * y.2)) * x'.2 := by grind
  rw [a1, ← z3]
  have a2 : x.1 * y.2 * z.2 * x'.2 = (x.1 * x'.2) * (y.2 * z.2) := by grind
  rw [a2, h]
  grind
