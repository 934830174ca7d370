/-! the class's kind tells the reference's token -/
def toL (K : Int) : Int := if 100 ≤ K then lawK K else K
def toM (K : Int) : Int := if 100 ≤ K then memK K else if K = 0 ∨ K = 2 ∨ K = 59 then K else 1
theorem mC_law {f : Int} (hf : f ≠ 0) (B : Nat → Int) (L q : Nat) : mC f B L q = toL (kC B L q) := by
  unfold mC kC
  by_cases c : q < L
  · rw [if_pos c, if_pos c]
    unfold mTok tK
    by_cases l1 : isL (B q) = true
    · rw [if_pos l1, if_pos l1]
      unfold wTok toL
      rw [if_neg hf]
      rcases wkF_1 (B := B) (p := q) (e := tE B L q) 36 0 rfl with ⟨v, a1, a2, a3, a4⟩ | ⟨a1, a2⟩
      · rw [a4, if_pos (by omega)]
      · rw [a2]; decide
    · rw [if_neg l1, if_neg l1]
      by_cases l2 : isD (B q) = true
      · rw [if_pos l2, if_pos l2]
        split <;> rfl
      · rw [if_neg l2, if_neg l2, if_neg hf]
        by_cases l5 : isS (B q) = true
        · have := of_decide_eq_true l5
          rw [if_pos l5]
          unfold toL
          rw [if_neg (show ¬ 100 ≤ B q by omega)]
          split <;> omega
        · rw [if_neg l5]
          have := of_decide_eq_false (Bool.eq_false_iff.mpr l5)
          rw [if_neg (show ¬ B q = 59 by omega)]
          rfl
  · rw [if_neg c, if_neg c]; rfl
theorem mC_mem (B : Nat → Int) (L q : Nat) : mC 0 B L q = toM (kC B L q) := by
  unfold mC kC
  by_cases c : q < L
  · rw [if_pos c, if_pos c]
    unfold mTok tK
    by_cases l1 : isL (B q) = true
    · rw [if_pos l1, if_pos l1]
      unfold wTok toM
      rw [if_pos rfl]
      rcases wkF_1 (B := B) (p := q) (e := tE B L q) 36 0 rfl with ⟨v, a1, a2, a3, a4⟩ | ⟨a1, a2⟩
      · rw [a4, if_pos (by omega)]
      · rw [a2]; decide
    · rw [if_neg l1, if_neg l1]
      by_cases l2 : isD (B q) = true
      · rw [if_pos l2, if_pos l2]
        split <;> decide
      · rw [if_neg l2, if_neg l2, if_pos (show (0 : Int) = 0 from rfl)]
        by_cases l5 : isS (B q) = true
        · have := of_decide_eq_true l5
          rw [if_pos l5]
          unfold toM
          rw [if_neg (show ¬ 100 ≤ B q by omega)]
          by_cases y : B q = 59
          · rw [if_pos y, if_pos (by omega)]; exact y.symm
          · rw [if_neg y, if_neg (by omega)]
        · have := of_decide_eq_false (Bool.eq_false_iff.mpr l5)
          rw [if_neg l5, if_neg (by omega)]; rfl
  · rw [if_neg c, if_neg c]; rfl
/-- kinds that there are -/
theorem kC_k (B : Nat → Int) (L q : Nat) : (kC B L q = 0 ∨ kC B L q = 1 ∨ kC B L q = 2) ∨ (40 ≤ kC B L q ∧ kC B L q ≤ 62) ∨ ∃ w : Nat, w < 36 ∧ kC B L q = 100 + w := by
  unfold kC
  by_cases c : q < L
  · rw [if_pos c]
    unfold tK
    by_cases l1 : isL (B q) = true
    · rw [if_pos l1]
      rcases wkF_1 (B := B) (p := q) (e := tE B L q) 36 0 rfl with ⟨v, a1, a2, a3, a4⟩ | ⟨a1, a2⟩
      · exact Or.inr (Or.inr ⟨v, a2, a4⟩)
      · rw [a2]; exact Or.inl (Or.inr (Or.inl rfl))
    · rw [if_neg l1]
      by_cases l2 : isD (B q) = true
      · rw [if_pos l2]; split <;> omega
      · rw [if_neg l2]
        by_cases l5 : isS (B q) = true
        · have := of_decide_eq_true l5
          rw [if_pos l5]
          exact Or.inr (Or.inl (by omega))
        · rw [if_neg l5]; omega
  · rw [if_neg c]; omega
/-- a number's value is a small one -/
theorem nV_b {B : Nat → Int} : ∀ (m p : Nat) (v : Int), m ≤ 5 → (∀ i, i < m → isD (B (p + i)) = true) → 0 ≤ v → v * 10 ^ m + 10 ^ m ≤ 100000 → 0 ≤ nV B m p v ∧ nV B m p v ≤ 99999 := by
  intro m
  induction m with
  | zero => intro p v _ _ h1 h2; simp only [nV]; omega
  | succ m ih =>
    intro p v hm hd h1 h2
    have d0 := of_decide_eq_true (hd 0 (by omega))
    rw [Nat.add_zero] at d0
    have hp : (10 : Int) ^ (m + 1) = 10 * 10 ^ m := by rw [Int.pow_succ, Int.mul_comm]
    have hpos : (0 : Int) < 10 ^ m := Int.pow_pos (by decide)
    have hv : 10 * v + 10 ≤ 100000 := by
      have : (10 * v + 10) * 10 ^ m ≤ 100000 := by rw [hp] at h2; grind
      have h3 : (10 * v + 10) * 1 ≤ (10 * v + 10) * 10 ^ m := Int.mul_le_mul_of_nonneg_left (by omega) (by omega)
      omega
    have hw : wr (((10 * v) + B p) - 48) = ((10 * v) + B p) - 48 := wr_of (by omega) (by omega)
    rw [nV, hw]
    refine ih (p + 1) _ (by omega) (fun i hi => by have := hd (i + 1) (by omega); rw [show p + 1 + i = p + (i + 1) by omega]; exact this) (by omega) ?_
    have h4 : (((10 * v) + B p) - 48) * 10 ^ m ≤ (10 * v + 9) * 10 ^ m := Int.mul_le_mul_of_nonneg_right (by omega) (by omega)
    rw [hp] at h2
    grind
