/-! a number's value; events -/
theorem rN_all {f : Int → Bool} {B : Nat → Int} {L : Nat} : ∀ (m p : Nat), L - p ≤ m → ∀ i, p ≤ i → i < rN f B L p → f (B i) = true := by
  intro m
  induction m with
  | zero => intro p h i h1 h2; rw [rN_eq, if_neg (by omega)] at h2; omega
  | succ m ih =>
    intro p h i h1 h2
    rw [rN_eq] at h2
    by_cases c : p < L
    · rw [if_pos c] at h2
      by_cases d : f (B p) = true
      · rw [if_pos d] at h2
        by_cases z : i = p
        · rw [z]; exact d
        · exact ih (p + 1) (by omega) i (by omega) h2
      · rw [if_neg d] at h2; omega
    · rw [if_neg c] at h2; omega
theorem vC_b (B : Nat → Int) (L q : Nat) : 0 ≤ vC B L q ∧ vC B L q ≤ 99999 := by
  unfold vC
  by_cases c : q < L
  · rw [if_pos c]
    unfold tV
    by_cases l2 : isD (B q) = true
    · rw [if_pos l2]
      by_cases d : 6 ≤ tE B L q - q
      · rw [if_pos d]; omega
      · rw [if_neg d]
        have l1 : ¬ isL (B q) = true := fun z => by
          have z1 := of_decide_eq_true z
          have z2 := of_decide_eq_true l2
          omega
        have ht : tE B L q = rN isD B L (q + 1) := by unfold tE; rw [if_neg l1, if_pos l2]
        have ht2 : rN isD B L q = rN isD B L (q + 1) := by rw [rN_eq isD B L q, if_pos c, if_pos l2]
        have hall := rN_all (f := isD) (B := B) (L := L) L q (by omega)
        rw [ht2, ← ht] at hall
        have hm : tE B L q - q ≤ 5 := by omega
        refine nV_b _ q 0 hm (fun i hi => hall (q + i) (by omega) (by omega)) (Int.le_refl _) ?_
        generalize tE B L q - q = m at hm
        have h : m = 0 ∨ m = 1 ∨ m = 2 ∨ m = 3 ∨ m = 4 ∨ m = 5 := by omega
        rcases h with rfl | rfl | rfl | rfl | rfl | rfl <;> decide
    · rw [if_neg l2]; omega
  · rw [if_neg c]; omega
theorem event_C {G : GS} {B : Nat → Int} {L i q : Nat} (h : atC G B L i q) (h8 : gi G 15 8 = 0) : f_MemoryReader_takeEvent G = some (if kC B L q = 2 then (if vC B L q < 16 ∧ gi G 24 (vC B L q).toNat ≠ -1 then (vC B L q, stp G i) else (0, flt G 2 q)) else (0, flt G 1 q)) := by
  have vb := vC_b B L q
  rw [f_MemoryReader_takeEvent, value_at h, Option.bind_some, kind_at h, Option.bind_some]
  have e1 : gi (flt G 1 q) 15 8 ≠ 0 := by rw [flt_8 (by decide)]; decide
  have e2 : gi (flt G 2 q) 15 8 ≠ 0 := by rw [flt_8 (by decide)]; decide
  have e3 : gi (stp G i) 15 8 = 0 := by rw [stp_gi (by omega)]; exact h8
  by_cases c : kC B L q = 2
  · rw [if_pos c, if_pos c, f_Remembered_hasEvent, if_neg (show ¬ vC B L q < 0 by omega)]
    by_cases d : 16 ≤ vC B L q
    · rw [if_pos d, if_neg (show ¬ (vC B L q < 16 ∧ gi G 24 (vC B L q).toNat ≠ -1) from fun z => by omega), Option.bind_some, if_pos rfl, fail_at h h8, Option.bind_some, f_MemoryReader_takeEvent_L38, take_no e2, Option.bind_some, if_neg e2]
    · rw [if_neg d, gd, if_pos (by omega)]
      by_cases e : gi G 24 (vC B L q).toNat = -1
      · rw [if_pos e, if_neg (show ¬ (vC B L q < 16 ∧ gi G 24 (vC B L q).toNat ≠ -1) from fun z => z.2 e), Option.bind_some, if_pos rfl, fail_at h h8, Option.bind_some, f_MemoryReader_takeEvent_L38, take_no e2, Option.bind_some, if_neg e2]
      · rw [if_neg e, if_pos (show vC B L q < 16 ∧ gi G 24 (vC B L q).toNat ≠ -1 from ⟨by omega, e⟩), Option.bind_some, if_neg (by decide), f_MemoryReader_takeEvent_L38, take_at h h8 (by decide), if_pos c, Option.bind_some, if_pos e3]
  · rw [if_neg c, if_neg c, f_MemoryReader_takeEvent_L38, take_at h h8 (by decide), if_neg c, Option.bind_some, if_neg e1]
theorem event_M {G : GS} {f : Int} {B : Nat → Int} {L q : Nat} (h : atM G f B L q) : (mC f B L q = 2 → vC B L q < 16 → gi G 130 (vC B L q).toNat ≠ -1 → ∃ G', f_Model_anEvent G = some (1, G') ∧ Mx (si G 81 54 (vC B L q)) G' ∧ atM G' f B L (nq B L q)) ∧ (mC f B L q = 2 → ¬ (vC B L q < 16 ∧ gi G 130 (vC B L q).toNat ≠ -1) → f_Model_anEvent G = some (0, bad G 2 q)) ∧ (mC f B L q ≠ 2 → f_Model_anEvent G = some (0, bad G 1 q)) := by
  have vb := vC_b B L q
  refine ⟨fun c d e => ?_, fun c d => ?_, fun c => ?_⟩
  · obtain ⟨G', r1, r2, r3⟩ := next_at (atM_si (k := 54) (v := vC B L q) (by decide) h) (mC_lt (f := f) (B := B) (L := L) (q := q) (by rw [c]; decide))
    refine ⟨G', ?_, r2, r3⟩
    rw [f_Model_anEvent, h.2.1, if_pos c, val_M h c, if_neg (show ¬ 16 ≤ vC B L q by omega), gd, if_pos (by omega), if_neg e]
    simp only [wG, r1, Option.bind_some]
  · have e36 : f_Model_anEvent_L36 G = some (0, bad G 2 q) := by rw [f_Model_anEvent_L36, bad_at h]; rfl
    rw [f_Model_anEvent, h.2.1, if_pos c, val_M h c]
    by_cases y : 16 ≤ vC B L q
    · rw [if_pos y]; exact e36
    · rw [if_neg y, gd, if_pos (by omega)]
      by_cases z : gi G 130 (vC B L q).toNat = -1
      · rw [if_pos z]; exact e36
      · exact absurd ⟨by omega, z⟩ d
  · rw [f_Model_anEvent, h.2.1, if_neg c, bad_at h]; rfl
