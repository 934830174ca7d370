/-! what the reference does at a token -/
def bad (G : GS) (k : Int) (q : Nat) : GS := si (si G 81 48 k) 81 49 (q : Int)
theorem bad_at {G : GS} {f : Int} {B : Nat → Int} {L q : Nat} {k : Int} (h : atM G f B L q) : f_Model_bad G k = some (0, bad G k q) := by
  have e : gi (si G 81 48 k) 81 46 = q := by rw [gi_si, if_neg (by omega)]; exact h.1
  simp only [f_Model_bad, wG, e]
  rfl
theorem bad_gi {G : GS} {q c k : Nat} {v : Int} (z : ¬ (c = 81 ∧ (k = 48 ∨ k = 49))) : gi (bad G v q) c k = gi G c k := by unfold bad; rw [gi_si, if_neg (by omega), gi_si, if_neg (by omega)]
theorem bad_48 {G : GS} {q : Nat} {v : Int} (hv : wr v = v) : gi (bad G v q) 81 48 = v := by unfold bad; rw [gi_si, if_neg (by omega), gi_si, if_pos ⟨rfl, rfl⟩]; exact hv
theorem bad_49 {G : GS} {q : Nat} {v : Int} (hq : q ≤ 800) : gi (bad G v q) 81 49 = q := by unfold bad; rw [gi_si, if_pos ⟨rfl, rfl⟩]; exact wr_of (by omega) (by omega)
theorem mC_lt {f : Int} {B : Nat → Int} {L q : Nat} (h : mC f B L q ≠ 0) : q < L := by
  unfold mC at h
  by_cases c : q < L
  · exact c
  · rw [if_neg c] at h; exact absurd rfl h
theorem atM_si {G : GS} {f : Int} {B : Nat → Int} {L q k : Nat} {v : Int} (hk : ¬ (43 ≤ k ∧ k ≤ 47) ∧ k ≠ 53) (h : atM G f B L q) : atM (si G 81 k v) f B L q := by
  obtain ⟨a1, a2, a3, a4, a5, a6⟩ := h
  refine ⟨by rw [gi_si, if_neg (by omega)]; exact a1, by rw [gi_si, if_neg (by omega)]; exact a2, by rw [gi_si, if_neg (by omega)]; exact a3, fun x y z => by rw [gi_si, if_neg (by omega)]; exact a4 x y z, by rw [gi_si, if_neg (by omega)]; exact a5, ⟨by rw [gi_si, if_neg (by omega)]; exact a6.1, a6.2.1, fun k => by rw [gi_si, if_neg (by omega)]; exact a6.2.2.1 k, a6.2.2.2⟩⟩
theorem atM_sj {G : GS} {f : Int} {B : Nat → Int} {L q c k : Nat} {v : Int} (hc : c ≠ 81 ∧ c ≠ 117) (h : atM G f B L q) : atM (si G c k v) f B L q := by
  obtain ⟨a1, a2, a3, a4, a5, a6⟩ := h
  refine ⟨by rw [gi_si, if_neg (by omega)]; exact a1, by rw [gi_si, if_neg (by omega)]; exact a2, by rw [gi_si, if_neg (by omega)]; exact a3, fun x y z => by rw [gi_si, if_neg (by omega)]; exact a4 x y z, by rw [gi_si, if_neg (by omega)]; exact a5, ⟨by rw [gi_si, if_neg (by omega)]; exact a6.1, a6.2.1, fun k => by rw [gi_si, if_neg (by omega)]; exact a6.2.2.1 k, a6.2.2.2⟩⟩
theorem need_at {G : GS} {f : Int} {B : Nat → Int} {L q : Nat} {a : Int} (h : atM G f B L q) (ha : a ≠ 0) : (mC f B L q = a → ∃ G', f_Model_need G a = some (1, G') ∧ Mx G G' ∧ atM G' f B L (nq B L q)) ∧ (mC f B L q ≠ a → f_Model_need G a = some (0, bad G 1 q)) := by
  refine ⟨fun c => ?_, fun c => ?_⟩
  · obtain ⟨G', r1, r2, r3⟩ := next_at h (mC_lt (by rw [c]; exact ha))
    refine ⟨G', ?_, r2, r3⟩
    rw [f_Model_need, h.2.1, if_pos c, r1]; rfl
  · rw [f_Model_need, h.2.1, if_neg c, bad_at h]; rfl
/-- the value where a number stands -/
theorem wkF_no2 {B : Nat → Int} {f : Int} {p e : Nat} : wTok f (wkF B p e 36 0) ≠ 2 := by
  unfold wTok
  have hl : ∀ w, w < 36 → lawK (100 + (w : Nat)) ≠ 2 ∧ memK (100 + (w : Nat)) ≠ 2 := by decide +kernel
  rcases wkF_1 (B := B) (p := p) (e := e) 36 0 rfl with ⟨v, a1, a2, a3, a4⟩ | ⟨a1, a2⟩
  · rw [a4]
    split
    · exact (hl v a2).2
    · exact (hl v a2).1
  · rw [a2]
    split <;> decide
theorem mT_2 {f : Int} {B : Nat → Int} {L q : Nat} (h : mTok f B L q = 2) : isD (B q) = true := by
  unfold mTok at h
  by_cases l1 : isL (B q) = true
  · rw [if_pos l1] at h; exact absurd h wkF_no2
  · rw [if_neg l1] at h
    by_cases l2 : isD (B q) = true
    · exact l2
    · rw [if_neg l2] at h
      by_cases l3 : B q = 59
      · rw [if_pos l3] at h; cases h
      · rw [if_neg l3] at h
        by_cases l4 : f = 0
        · rw [if_pos l4] at h; cases h
        · rw [if_neg l4] at h
          by_cases l5 : isS (B q) = true
          · rw [if_pos l5] at h
            have := of_decide_eq_true l5
            omega
          · rw [if_neg l5] at h; cases h
theorem val_M {G : GS} {f : Int} {B : Nat → Int} {L q : Nat} (h : atM G f B L q) (c : mC f B L q = 2) : gi G 81 47 = vC B L q := by
  have hq := mC_lt (f := f) (B := B) (L := L) (q := q) (by rw [c]; decide)
  unfold mC at c
  rw [if_pos hq] at c
  unfold vC
  rw [if_pos hq]
  exact h.2.2.2.1 hq (mT_2 c) c
theorem num_M {G : GS} {f : Int} {B : Nat → Int} {L q : Nat} {a m : Int} (h : atM G f B L q) : (mC f B L q = 2 → a ≤ vC B L q ∧ vC B L q ≤ m → ∃ G', f_Model_aNumber G a m = some (1, G') ∧ Mx (si G 81 54 (vC B L q)) G' ∧ atM G' f B L (nq B L q)) ∧ (mC f B L q = 2 → ¬ (a ≤ vC B L q ∧ vC B L q ≤ m) → f_Model_aNumber G a m = some (0, bad G 2 q)) ∧ (mC f B L q ≠ 2 → f_Model_aNumber G a m = some (0, bad G 1 q)) := by
  refine ⟨fun c d => ?_, fun c d => ?_, fun c => ?_⟩
  · obtain ⟨G', r1, r2, r3⟩ := next_at (atM_si (k := 54) (v := vC B L q) (by decide) h) (mC_lt (f := f) (by rw [c]; decide))
    refine ⟨G', ?_, r2, r3⟩
    rw [f_Model_aNumber, h.2.1, if_pos c, val_M h c, isIn_eq, if_pos d, Option.bind_some, if_neg (by decide)]
    simp only [wG, r1, Option.bind_some]
  · rw [f_Model_aNumber, h.2.1, if_pos c, val_M h c, isIn_eq, if_neg d, Option.bind_some, if_pos rfl, bad_at h]; rfl
  · rw [f_Model_aNumber, h.2.1, if_neg c, bad_at h]; rfl
theorem oneOf_M {G : GS} {f : Int} {B : Nat → Int} {L q : Nat} {a n : Int} (h : atM G f B L q) (ha : 1 ≤ a ∧ a ≤ 300) (hn : 1 ≤ n ∧ n ≤ 20) : ((a ≤ mC f B L q ∧ mC f B L q < a + n) → ∃ G', f_Model_oneOf G a n = some (1, G') ∧ Mx (si G 81 54 (mC f B L q - a)) G' ∧ atM G' f B L (nq B L q)) ∧ (¬ (a ≤ mC f B L q ∧ mC f B L q < a + n) → f_Model_oneOf G a n = some (0, bad G 1 q)) := by
  have hw : wr ((a + n) - 1) = (a + n) - 1 := wr_of (by omega) (by omega)
  refine ⟨fun c => ?_, fun c => ?_⟩
  · obtain ⟨G', r1, r2, r3⟩ := next_at (atM_si (k := 54) (v := mC f B L q - a) (by decide) h) (mC_lt (f := f) (B := B) (L := L) (q := q) (by omega))
    refine ⟨G', ?_, r2, r3⟩
    rw [f_Model_oneOf, h.2.1, hw, isIn_eq, if_pos (by omega), Option.bind_some, if_neg (by decide)]
    simp only [wG, r1, Option.bind_some]
  · rw [f_Model_oneOf, h.2.1, hw, isIn_eq, if_neg (by omega), Option.bind_some, if_pos rfl, bad_at h]; rfl
