/-! the first store keeps the invariant -/
def Wz (c k : Nat) : Bool := decide ((c = 15 ∧ k = 9) ∨ (c = 17 ∧ k < 37) ∨ (c = 24 ∧ k < 16) ∨ (c = 46 ∧ k < 120) ∨ ((c = 50 ∨ c = 56 ∨ c = 62 ∨ c = 68 ∨ c = 75) ∧ 4 ≤ k ∧ k ≤ 7) ∨ (c = 0 ∧ k = 12) ∨ (c = 81 ∧ (k = 16 ∨ k = 52)) ∨ (96 ≤ c ∧ c ≤ 99 ∧ k < 4) ∨ (c = 130 ∧ k < 16) ∨ (c = 135 ∧ k < 120))
def Zr (G : GS) : Prop := ∀ c k, Wz c k = false → G.1 c k = 0
theorem Zr_si {G : GS} {c k : Nat} {v : Int} (h : Zr G) (hw : (Wz c k || decide (v = 0)) = true) : Zr (si G c k v) := by
  intro c' k' hz
  show (if c' = c ∧ k' = k then v else G.1 c' k') = 0
  by_cases z : c' = c ∧ k' = k
  · obtain ⟨rfl, rfl⟩ := z
    rw [hz, Bool.false_or] at hw
    rw [if_pos ⟨rfl, rfl⟩, of_decide_eq_true hw]
  · rw [if_neg z]; exact h c' k' hz
theorem Zr_sp {G : GS} {c k v : Nat} (h : Zr G) : Zr (sp G c k v) := h
theorem Zr_fill {G : GS} {c N : Nat} {v : Int} (h : Zr G) (hw : (decide (v = 0) || (decide (∀ k, k < N → Wz c k = true))) = true) : Zr (fillG G c N v) := by
  intro c' k' hz
  show (if c' = c ∧ k' < N then v else G.1 c' k') = 0
  by_cases z : c' = c ∧ k' < N
  · obtain ⟨rfl, z2⟩ := z
    rw [if_pos ⟨rfl, z2⟩]
    rcases Bool.or_eq_true_iff.mp hw with q | q
    · exact of_decide_eq_true q
    · have := of_decide_eq_true q k' z2
      rw [hz] at this; cases this
  · rw [if_neg z]; exact h c' k' hz
theorem Zr_fill0 {G : GS} {c N : Nat} (h : Zr G) : Zr (fillG G c N 0) := Zr_fill h rfl
theorem Zr_65 : ∀ (n : Nat) (G G' : GS) (a b : Int), f_Model_clears_L65 n G a b = some G' → Zr G → Zr G' := by
  intro n
  induction n with
  | zero => intro G G' a b h; cases h
  | succ n ih =>
    intro G G' a b h hz
    rw [f_Model_clears_L65] at h
    split at h
    · have := Option.some.inj h; subst this; exact hz
    · simp only [gd, wG] at h
      split at h
      · exact ih _ _ _ _ h (Zr_si (Zr_si (Zr_si hz (by simp)) (by simp)) (by simp))
      · cases h
theorem Zr_41 : ∀ (n : Nat) (G G' : GS) (a b : Int), f_Model_clears_L41 n G a b = some G' → Zr G → Zr G' := by
  intro n
  induction n with
  | zero => intro G G' a b h; cases h
  | succ n ih =>
    intro G G' a b h hz
    rw [f_Model_clears_L41] at h
    split at h
    · exact Zr_65 _ _ _ _ _ h hz
    · simp only [gd, wG] at h
      split at h
      · exact ih _ _ _ _ h (Zr_si hz (by simp))
      · cases h
theorem Zr_clears {G G' : GS} {a : Int} (h : f_Model_clears G a = some G') (hz : Zr G) : Zr G' := by
  simp only [f_Model_clears, gd, wG] at h
  split at h
  · rename_i ha
    have w : ∀ c, 96 ≤ c → c ≤ 99 → Wz c a.toNat = true := fun c x y => decide_eq_true (by omega)
    refine Zr_41 _ _ _ _ _ h ?_
    refine Zr_si (Zr_si (Zr_si (Zr_si (Zr_si hz ?_) ?_) ?_) ?_) (by simp)
    · rw [w 96 (by decide) (by decide)]; rfl
    · rw [w 97 (by decide) (by decide)]; rfl
    · rw [w 98 (by decide) (by decide)]; rfl
    · rw [w 99 (by decide) (by decide)]; rfl
  · cases h
theorem Zr_8 : Zr gk_8 := by
  unfold gk_8 gk_7 gk_5 gk_4 gk_2 gk_1
  repeat first | with_reducible refine Zr_si ?_ (by decide) | with_reducible refine Zr_sp ?_
  exact fun _ _ _ => rfl
theorem Zr_31 : Zr gk_31 := by
  unfold gk_31 gk_29 gk_28 gk_26 gk_25 gk_23 gk_22 gk_20 gk_19 gk_17 gk_16 gk_14 gk_13 gk_11 gk_10
  repeat first | with_reducible refine Zr_si ?_ (by decide) | with_reducible refine Zr_sp ?_ | with_reducible refine Zr_fill0 ?_ | with_reducible refine Zr_fill ?_ (by decide)
  exact Zr_8
theorem Zr_61 : Zr gk_61 := by
  unfold gk_61 gk_59 gk_57 gk_56 gk_55 gk_53 gk_51 gk_50 gk_49 gk_47 gk_45 gk_44 gk_43 gk_41 gk_39 gk_38 gk_37 gk_35 gk_33 gk_32
  repeat first | with_reducible refine Zr_si ?_ (by decide) | with_reducible refine Zr_sp ?_ | with_reducible refine Zr_fill0 ?_ | with_reducible refine Zr_fill ?_ (by decide)
  exact Zr_31
theorem Zr_63 : Zr gk_63 := by
  unfold gk_63
  repeat first | with_reducible refine Zr_si ?_ (by decide) | with_reducible refine Zr_sp ?_
  exact Zr_61
theorem Zr_70 : Zr gk_70 := Zr_clears sk_gk_70 (Zr_clears sk_gk_68 (Zr_clears sk_gk_66 (Zr_clears sk_gk_64 Zr_63)))
set_option maxRecDepth 20000 in
theorem Zr_71 : Zr gk_71 := by
  unfold gk_71
  repeat with_reducible refine Zr_si ?_ (by decide)
  exact Zr_70
theorem z71 {c k : Nat} (h : Wz c k = false) : gi gk_71 c k = 0 := by
  unfold gi
  rw [Zr_71 c k h]
  rfl
