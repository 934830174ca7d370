/-! who holds a LAND; the reign on a day -/
def holdC (G : GS) (l d t b i : Int) : Bool := decide (gi G 39 i.toNat = l ∧ gi G 42 i.toNat ≤ t ∧ (gi G 44 i.toNat = -1 ∨ t < gi G 44 i.toNat) ∧ gi G 41 i.toNat ≤ d ∧ (b = -1 ∨ gi G 41 b.toNat ≤ gi G 41 i.toNat))
theorem hold_F {G : GS} {n : Nat} {l d t b i : Int} (h1 : gi G 38 6 ≤ 100) (h2 : 0 ≤ i) (h3 : i < gi G 38 6) (h4 : b = -1 ∨ (0 ≤ b ∧ b < 100)) : f_Seizings_holderAt_L6 G (n + 1) l d t b i = if holdC G l d t b i = true then f_Seizings_holderAt_L6 G n l d t i (i + 1) else f_Seizings_holderAt_L6 G n l d t b (i + 1) := by
  have hw : wr (i + 1) = i + 1 := wr_of (by omega) (by omega)
  have g1 : 0 ≤ i ∧ i < 100 := by omega
  simp only [f_Seizings_holderAt_L6, f_Seizings_holderAt_L52, f_Seizings_holderAt_L48]
  generalize f_Seizings_holderAt_L6 G n = K
  grind (splits := 24) [f_Seizings_holderAt_L53, f_Seizings_holderAt_L105, f_Seizings_holderAt_L109, gd, holdC]
theorem hold_M {G : GS} {n : Nat} {l d t b i : Int} (h1 : gi G 38 6 ≤ 100) (h2 : 0 ≤ i) (h3 : i < gi G 38 6) (h4 : b = -1 ∨ (0 ≤ b ∧ b < 100)) (e66 : gi G 81 66 = gi G 38 6) (e123 : gi G 123 i.toNat = gi G 39 i.toNat) (e125 : gi G 125 i.toNat = gi G 41 i.toNat) (e126 : gi G 126 i.toNat = gi G 42 i.toNat) (e128 : gi G 128 i.toNat = gi G 44 i.toNat) (e125b : gi G 125 b.toNat = gi G 41 b.toNat) : f_Model_holderOf_L6 G (n + 1) l d t b i = if holdC G l d t b i = true then f_Model_holderOf_L6 G n l d t i (i + 1) else f_Model_holderOf_L6 G n l d t b (i + 1) := by
  have hw : wr (i + 1) = i + 1 := wr_of (by omega) (by omega)
  have g1 : 0 ≤ i ∧ i < 100 := by omega
  simp only [f_Model_holderOf_L6]
  generalize f_Model_holderOf_L6 G n = K
  grind (splits := 24) [f_Model_holderOf_L73, f_Model_holderOf_L96, f_Model_holderOf_L100, gd, holdC]
theorem hold_eq {G : GS} (h1 : gi G 38 6 ≤ 100) (e66 : gi G 81 66 = gi G 38 6) (e123 : ∀ k, gi G 123 k = gi G 39 k) (e124 : ∀ k, gi G 124 k = gi G 40 k) (e125 : ∀ k, gi G 125 k = gi G 41 k) (e126 : ∀ k, gi G 126 k = gi G 42 k) (e128 : ∀ k, gi G 128 k = gi G 44 k) : ∀ (n : Nat) (l d t b i : Int), 0 ≤ i → i ≤ gi G 38 6 → (b = -1 ∨ (0 ≤ b ∧ b < 100)) → gi G 38 6 - i < n → ∃ v, f_Seizings_holderAt_L6 G n l d t b i = some v ∧ f_Model_holderOf_L6 G n l d t b i = some v := by
  intro n
  induction n with
  | zero => intro l d t b i q1 q2 q3 q4; omega
  | succ n ih =>
    intro l d t b i q1 q2 q3 q4
    by_cases hi : gi G 38 6 ≤ i
    · refine ⟨if b = -1 then -2 else gi G 40 b.toNat, ?_, ?_⟩
      · simp only [f_Seizings_holderAt_L6, if_pos hi]
        grind [gd]
      · simp only [f_Model_holderOf_L6, e66, if_pos hi, e124]
        grind [gd]
    · rw [hold_F h1 q1 (by omega) q3, hold_M h1 q1 (by omega) q3 e66 (e123 _) (e125 _) (e126 _) (e128 _) (e125 _)]
      by_cases c : holdC G l d t b i = true
      · rw [if_pos c, if_pos c]
        exact ih l d t i (i + 1) (by omega) (by omega) (by omega) (by omega)
      · rw [if_neg c, if_neg c]
        exact ih l d t b (i + 1) (by omega) (by omega) (by omega) (by omega)
theorem step_holder : Step_holder Inv := by
  intro G l d t hl hd ht hI
  have hI' := hI
  obtain ⟨hE, hP, hL, hR, hS, -⟩ := hI'
  have e0 := hE.2 ((81, 0), (0, 14)) (by decide)
  have e10 := hE.2 ((81, 10), (9, 5)) (by decide)
  have e66 := hE.2 ((81, 66), (38, 6)) (by decide)
  simp only at e0 e10 e66
  have s0 := hS.1
  obtain ⟨v, p1, p2⟩ := hold_eq hS.2.1 e66 (hE.1 (123, 39) (by decide)) (hE.1 (124, 40) (by decide)) (hE.1 (125, 41) (by decide)) (hE.1 (126, 42) (by decide)) (hE.1 (128, 44) (by decide)) FU l d t (-1) 0 (by omega) s0 (Or.inl rfl) (by have := hS.2.1; unfold FU; omega)
  have m1 := mLand_eq (G := G) l (by rw [e10]; exact hL.1) (by rw [e10]; exact hL.2.1)
  rw [e10] at m1
  refine ⟨if (0 ≤ l ∧ l < gi G 9 5) ∧ (0 ≤ d ∧ d ≤ 29999) ∧ (0 ≤ t ∧ t ≤ gi G 0 14) then v else -3, _, ?_, ?_, rfl, hI⟩
  · have h1 := lHas_eq G l
    have h2 := hDay_eq G d
    have h3 : f_Seizings_holderAt G l d t = some v := p1
    clear p1 p2 hE hP hL hR hS hI
    grind [f_Hall_holder]
  · have h2 := mDay_eq G d
    have h3 : f_Model_holderOf G l d t = some v := p2
    have h4 := isIn_eq G t 0 (gi G 0 14)
    clear p1 p2 hE hP hL hR hS hI
    grind [f_Model_holder]
/-- r reigns on day d -/
def onV (G : GS) (d : Int) (r : Nat) : Prop := (r : Int) < gi G 0 12 ∧ gi G 74 r ≤ d ∧ ∀ s : Nat, r < s → (s : Int) < gi G 0 12 → d < gi G 74 s
theorem on_one {G : GS} {d : Int} {r s : Nat} (h1 : onV G d r) (h2 : onV G d s) : r = s := by
  rcases Nat.lt_trichotomy r s with h | h | h
  · have := h1.2.2 s h h2.1; have := h2.2.1; omega
  · exact h
  · have := h2.2.2 r h h1.1; have := h1.2.1; omega
theorem on_H {G : GS} {d : Int} (h1 : gi G 0 12 ≤ 4) : ∀ (n : Nat) (x2 x3 : Nat), (x3 : Int) ≤ gi G 0 12 → x2 < x3 → gi G 74 x2 ≤ d → (∀ s : Nat, x2 < s → s < x3 → d < gi G 74 s) → gi G 0 12 - x3 < n → ∃ r : Nat, f_Hall_reignOn_L4 G n d x2 x3 = some (r : Int) ∧ onV G d r := by
  intro n
  induction n with
  | zero => intro x2 x3 q1 q2 q3 q4 q5; omega
  | succ n ih =>
    intro x2 x3 q1 q2 q3 q4 q5
    by_cases hi : gi G 0 12 ≤ x3
    · exact ⟨x2, by simp only [f_Hall_reignOn_L4, if_pos hi], by omega, q3, fun s a b => q4 s a (by omega)⟩
    · have hw : wr ((x3 : Int) + 1) = ((x3 + 1 : Nat) : Int) := by rw [wr_of (by omega) (by omega)]; omega
      simp only [f_Hall_reignOn_L4, if_neg hi, f_Hall_reignOn_L24, hw, Int.toNat_natCast]
      rw [gd, if_pos (by omega)]
      by_cases c : d < gi G 74 x3
      · rw [if_pos c]
        refine ih x2 (x3 + 1) (by omega) (by omega) q3 (fun s a b => ?_) (by omega)
        rcases Nat.lt_or_ge s x3 with h | h
        · exact q4 s a h
        · rw [show s = x3 by omega]; exact c
      · rw [if_neg c]
        exact ih x3 (x3 + 1) (by omega) (by omega) (by omega) (fun s a b => by omega) (by omega)
theorem on_M {G : GS} {d : Int} (h0 : gi G 74 0 = 0) (hd : 0 ≤ d) (h1 : gi G 0 12 ≤ 4) (e95 : ∀ k, gi G 95 k = gi G 74 k) : ∀ (n : Nat) (x2 : Nat), (x2 : Int) < gi G 0 12 → (∀ s : Nat, x2 < s → (s : Int) < gi G 0 12 → d < gi G 74 s) → x2 < n → ∃ r : Nat, f_Model_reignOn_L7 G n d x2 = some (r : Int) ∧ onV G d r := by
  intro n
  induction n with
  | zero => intro x2 q1 q2 q3; omega
  | succ n ih =>
    intro x2 q1 q2 q3
    simp only [f_Model_reignOn_L7, Int.toNat_natCast, e95]
    rw [gd, if_pos (by omega)]
    by_cases c : gi G 74 x2 ≤ d
    · rw [if_pos c]
      exact ⟨x2, rfl, q1, c, q2⟩
    · rw [if_neg c]
      have hx : x2 ≠ 0 := fun z => by rw [z, h0] at c; omega
      have hw : wr ((x2 : Int) + -1) = ((x2 - 1 : Nat) : Int) := by rw [wr_of (by omega) (by omega)]; omega
      rw [hw]
      refine ih (x2 - 1) (by omega) (fun s a b => ?_) (by omega)
      rcases Nat.lt_or_ge x2 s with h | h
      · exact q2 s h b
      · rw [show s = x2 by omega]; omega
theorem on_eq {G : GS} {d : Int} (hE : InvE G) (hR : InvR G) (hd : 0 ≤ d) : ∃ r : Nat, r < 4 ∧ onV G d r ∧ f_Hall_reignOn G d = some (r : Int) ∧ f_Model_reignOn G d = some (r : Int) := by
  have e16 := hE.2 ((81, 16), (0, 12)) (by decide)
  simp only at e16
  obtain ⟨r0, r1, r2, r3, r4⟩ := hR
  obtain ⟨r, a1, a2⟩ := on_H (d := d) r1 FU 0 1 (by omega) (by decide) (by rw [r2]; exact hd) (fun s a b => by omega) (by unfold FU; omega)
  obtain ⟨s, b1, b2⟩ := on_M (d := d) r2 hd r1 (hE.1 (95, 74) (by decide)) FU (gi G 0 12 - 1).toNat (by omega) (fun s a b => by omega) (by unfold FU; omega)
  have hrs := on_one a2 b2
  have hr : (r : Int) < 4 := by have := a2.1; omega
  refine ⟨r, by omega, a2, a1, ?_⟩
  have hw : wr (gi G 0 12 - 1) = gi G 0 12 - 1 := wr_of (by omega) (by omega)
  unfold f_Model_reignOn
  rw [e16, hw, hrs, ← b1]
  congr 1
  omega
