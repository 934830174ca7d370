/-! a law's text is read: the step -/
theorem Inv_reads {G F : GS} (hI : Inv G) (hF : ∀ x k, ¬ (x = 15 ∧ (k = 1 ∨ (6 ≤ k ∧ k ≤ 9))) → ¬ (18 ≤ x ∧ x ≤ 22) → ¬ ((50 ≤ x ∧ x ≤ 80) ∧ x ≠ 74) → ¬ (x = 81 ∧ 41 ≤ k ∧ k ≤ 54) → ¬ (96 ≤ x ∧ x ≤ 116) → gi F x k = gi G x k) (h15 : gi F 15 1 = 0) (h43 : gi F 81 43 = 0) (h50 : gi F 81 50 = gi F 15 8) (h52 : gi F 81 52 = gi F 15 9) (hK : InvK F) : Inv F := by
  obtain ⟨hE, hP, hL, hR, hS, hT, hM, hJ, -⟩ := hI
  have h14 : gi F 0 14 = gi G 0 14 := hF 0 14 (by omega) (by omega) (by omega) (by omega) (by omega)
  have h17 : gi F 1 7 = gi G 1 7 := hF 1 7 (by omega) (by omega) (by omega) (by omega) (by omega)
  have h95 : gi F 9 5 = gi G 9 5 := hF 9 5 (by omega) (by omega) (by omega) (by omega) (by omega)
  have n1 := hP.2.1
  refine ⟨?_, InvP_fr (by omega) (by omega) h17 (fun c k q => hF _ _ (by omega) (by omega) (by omega) (by omega) (by omega)) hP, InvL_fr (by omega) h95 (fun c k q => hF _ _ (by omega) (by omega) (by omega) (by omega) (by omega)) hL, InvR_fr (hF _ _ (by omega) (by omega) (by omega) (by omega) (by omega)) (fun k => hF _ _ (by omega) (by omega) (by omega) (by omega) (by omega)) hR, InvS_fr (by omega) (by omega) (by omega) (hF _ _ (by omega) (by omega) (by omega) (by omega) (by omega)) (fun c k q => hF _ _ (by omega) (by omega) (by omega) (by omega) (by omega)) hS, ⟨by omega, by omega, fun k => ?_, fun i hi => ?_⟩, InvM_fr h17 (fun k => hF _ _ (by omega) (by omega) (by omega) (by omega) (by omega)) (fun c k q => hF _ _ (by omega) (by omega) (by omega) (by omega) (by omega)) hM, InvJ_fr (by omega) (fun k => hF _ _ (by omega) (by omega) (by omega) (by omega) (by omega)) (hF _ _ (by omega) (by omega) (by omega) (by omega) (by omega)) (hF _ _ (by omega) (by omega) (by omega) (by omega) (by omega)) (fun k => hF _ _ (by omega) (by omega) (by omega) (by omega) (by omega)) (Or.inl (hF _ _ (by omega) (by omega) (by omega) (by omega) (by omega))) (hF _ _ (by omega) (by omega) (by omega) (by omega) (by omega)) hJ, hK⟩
  · refine InvE_fr (fun q hq k => ?_) (fun q hq => ?_) hE
    · have := eqC_rng q hq
      left
      exact ⟨hF _ _ (by omega) (by omega) (by omega) (by omega) (by omega), hF _ _ (by omega) (by omega) (by omega) (by omega) (by omega)⟩
    · simp only [eqS, List.mem_cons, List.not_mem_nil, or_false] at hq
      rcases hq with rfl | rfl | rfl | rfl | rfl | rfl | rfl | rfl
      · exact Or.inl ⟨hF 81 0 (by omega) (by omega) (by omega) (by omega) (by omega), h14⟩
      · exact Or.inl ⟨hF 81 1 (by omega) (by omega) (by omega) (by omega) (by omega), h17⟩
      · exact Or.inl ⟨hF 81 10 (by omega) (by omega) (by omega) (by omega) (by omega), h95⟩
      · exact Or.inl ⟨hF 81 16 (by omega) (by omega) (by omega) (by omega) (by omega), hF 0 12 (by omega) (by omega) (by omega) (by omega) (by omega)⟩
      · exact Or.inr (h43.trans h15.symm)
      · exact Or.inr h50
      · exact Or.inr h52
      · exact Or.inl ⟨hF 81 66 (by omega) (by omega) (by omega) (by omega) (by omega), hF 38 6 (by omega) (by omega) (by omega) (by omega) (by omega)⟩
  · have := hT.2.2.1 k
    rw [hF 16 k (by omega) (by omega) (by omega) (by omega) (by omega), hF 117 k (by omega) (by omega) (by omega) (by omega) (by omega)]
    exact this
  · rw [hF 17 i (by omega) (by omega) (by omega) (by omega) (by omega)]
    exact hT.2.2.2 i hi
theorem law_apart {a b : Nat} (ha : lawC a = true) (hb : lawC b = true) (h : a ≠ b) : a + 5 < b ∨ b + 5 < a := by
  unfold lawC at ha hb
  simp only [Bool.or_eq_true, beq_iff_eq] at ha hb
  omega
theorem LawRel_fr {F G : GS} {r c : Nat} (hr : r < 4) (hc : ∀ j k, j ≤ 5 → gi F (c + j) k = gi G (c + j) k) (ho : ∀ x k, own r x k → gi F x k = gi G x k) (h : LawRel G r c) : LawRel F r c := by
  have hc0 : ∀ k, gi F c k = gi G c k := fun k => hc 0 k (by omega)
  obtain ⟨⟨a1, a2, a3, a4⟩, b, d, e, ls, f1, f2, f3, f4, f5, f6, f7, f8, f9, f10⟩ := h
  refine ⟨?_, ?_, fun s hs => ?_, fun v hv => ?_, ls, f1, f2, f3, f4, ?_, fun i hi => ?_, ?_, fun k hk => ?_, fun k hk => ?_, fun i hi => ?_⟩
  · rw [ho 96 r (by unfold own; omega), ho 97 r (by unfold own; omega), ho 98 r (by unfold own; omega), ho 99 r (by unfold own; omega), hc0, hc0, hc0, hc0]
    exact ⟨a1, a2, a3, a4⟩
  · rw [hc0, hc0, hc0, hc0]; exact b
  · rw [ho 100 _ (by unfold own; omega), hc 1 s (by omega)]; exact d s hs
  · rw [ho 101 _ (by unfold own; omega), ho 102 _ (by unfold own; omega), ho 103 _ (by unfold own; omega), hc 2 v (by omega), hc 3 v (by omega), hc 4 v (by omega)]; exact e v hv
  · rw [hc0]; exact f5
  · rw [hc 5 i (by omega)]; exact f6 i hi
  · rw [ho 104 r (by unfold own; omega)]; exact f7
  · rw [ho 105 _ (by unfold own; omega), ho 107 _ (by unfold own; omega)]; exact f8 k hk
  · rw [ho 106 _ (by unfold own; omega)]; exact f9 k hk
  · rw [ho 108 _ (by unfold own; omega), ho 108 _ (by unfold own; omega)]; exact f10 i hi
theorem own_apart {r s x k : Nat} (h : r ≠ s) (ho : own s x k) : ¬ own r x k := by
  unfold own at *
  omega
theorem reset_RC {G : GS} {c : Nat} {B : Nat → Int} {L q : Nat} (hc : lawC c = true) (hA : atC G B L 0 q) (h8 : gi G 15 8 = 0) (hg : gp G 21 1 = c) : ∃ G', f_Law_reset G c = some G' ∧ FW G G' c ∧ RC G' c B L 0 q [] v00 := by
  have hr := law_rng hc
  have hgi : ∀ x k, ¬ (c ≤ x ∧ x ≤ c + 4) → gi (si (si (si (si (si (fillG (fillG (fillG (fillG G (c + 1) 4 0) (c + 2) 3 0) (c + 3) 3 0) (c + 4) 3 0) c 4 1) c 5 3) c 6 9999) c 7 9999) c 9 0) x k = gi G x k := fun x k z => by
    rw [gi_ne (by omega), gi_ne (by omega), gi_ne (by omega), gi_ne (by omega), gi_ne (by omega), gi_fill, if_neg (by omega), gi_fill, if_neg (by omega), gi_fill, if_neg (by omega), gi_fill, if_neg (by omega)]
  have hf : ∀ x k, c + 1 ≤ x → x ≤ c + 4 → gi (si (si (si (si (si (fillG (fillG (fillG (fillG G (c + 1) 4 0) (c + 2) 3 0) (c + 3) 3 0) (c + 4) 3 0) c 4 1) c 5 3) c 6 9999) c 7 9999) c 9 0) x k = gi (fillG (fillG (fillG (fillG G (c + 1) 4 0) (c + 2) 3 0) (c + 3) 3 0) (c + 4) 3 0) x k := fun x k z1 z2 => by
    rw [gi_ne (by omega), gi_ne (by omega), gi_ne (by omega), gi_ne (by omega), gi_ne (by omega)]
  refine ⟨si (si (si (si (si (fillG (fillG (fillG (fillG G (c + 1) 4 0) (c + 2) 3 0) (c + 3) 3 0) (c + 4) 3 0) c 4 1) c 5 3) c 6 9999) c 7 9999) c 9 0, rfl, ⟨fun x k a1 a2 a3 a4 => hgi x k (by omega), fun _ _ => rfl⟩, atC_fr (hgi _ _ (by omega)) (hgi _ _ (by omega)) (fun x k z1 z2 => hgi _ _ (by omega)) hA, by rw [hgi _ _ (by omega)]; exact h8, hg, ?_, fun j hj => by simp at hj, by simp, fun j hj => ?_, fun u hu => ?_, ?_, ?_, ?_, ?_⟩
  · rw [gi_sm, if_pos rfl]; exact wr_zero
  · rw [hf _ _ (by omega) (by omega), gi_fill, if_neg (by omega), gi_fill, if_neg (by omega), gi_fill, if_neg (by omega), gi_fill, if_pos ⟨rfl, hj⟩]; exact wr_zero
  · rw [hf _ _ (by omega) (by omega), hf _ _ (by omega) (by omega), hf _ _ (by omega) (by omega)]
    refine ⟨?_, ?_, ?_⟩
    · rw [gi_fill, if_neg (by omega), gi_fill, if_neg (by omega), gi_fill, if_pos ⟨rfl, hu⟩]; exact wr_zero
    · rw [gi_fill, if_neg (by omega), gi_fill, if_pos ⟨rfl, hu⟩]; exact wr_zero
    · rw [gi_fill, if_pos ⟨rfl, hu⟩]; exact wr_zero
  · rw [gi_sm, if_neg (by decide), gi_sm, if_neg (by decide), gi_sm, if_neg (by decide), gi_sm, if_neg (by decide), gi_sm, if_pos rfl]; exact wr_of (by omega) (by omega)
  · rw [gi_sm, if_neg (by decide), gi_sm, if_neg (by decide), gi_sm, if_neg (by decide), gi_sm, if_pos rfl]; exact wr_of (by omega) (by omega)
  · rw [gi_sm, if_neg (by decide), gi_sm, if_neg (by decide), gi_sm, if_pos rfl]; exact wr_of (by omega) (by omega)
  · rw [gi_sm, if_neg (by decide), gi_sm, if_pos rfl]; exact wr_of (by omega) (by omega)
theorem ends_0 (H : GS) : f_Model_ends H 0 = some (0, si (si (si H 81 43 0) 81 50 (gi H 81 48)) 81 52 (gi H 81 49)) := by
  have e1 : gi (si H 81 43 0) 81 48 = gi H 81 48 := by rw [gi_si, if_neg (by omega)]
  have e2 : gi (si (si H 81 43 0) 81 50 (gi H 81 48)) 81 49 = gi H 81 49 := by rw [gi_si, if_neg (by omega), gi_si, if_neg (by omega)]
  rw [f_Model_ends]
  simp only [wG, e1, e2, if_true, f_Model_ends_L26, gd]
  simp
theorem ends_1 (H : GS) : f_Model_ends H 1 = some (1, si (si (si H 81 43 0) 81 50 (gi H 81 48)) 81 52 (-1)) := by
  have e1 : gi (si H 81 43 0) 81 48 = gi H 81 48 := by rw [gi_si, if_neg (by omega)]
  rw [f_Model_ends]
  simp only [wG, e1, f_Model_ends_L26, gd]
  simp
theorem ends_g {H : GS} {u w : Int} {x k : Nat} (h : ¬ (x = 81 ∧ (k = 43 ∨ k = 50 ∨ k = 52))) : gi (si (si (si H 81 43 0) 81 50 u) 81 52 w) x k = gi H x k := by
  rw [gi_si, if_neg (by omega), gi_si, if_neg (by omega), gi_si, if_neg (by omega)]
theorem ends_v {H : GS} {u w : Int} (hu : wr u = u) (hw : wr w = w) : gi (si (si (si H 81 43 0) 81 50 u) 81 52 w) 81 43 = 0 ∧ gi (si (si (si H 81 43 0) 81 50 u) 81 52 w) 81 50 = u ∧ gi (si (si (si H 81 43 0) 81 50 u) 81 52 w) 81 52 = w := by
  refine ⟨?_, ?_, ?_⟩
  · rw [gi_si, if_neg (by omega), gi_si, if_neg (by omega), gi_si, if_pos ⟨rfl, rfl⟩]; exact wr_zero
  · rw [gi_si, if_neg (by omega), gi_si, if_pos ⟨rfl, rfl⟩]; exact hu
  · rw [gi_si, if_pos ⟨rfl, rfl⟩]; exact hw
