/-! scratch cells: what stands there is nobody's business between two calls -/
def scr (c k : Nat) : Prop := (18 ≤ c ∧ c ≤ 20) ∨ c = 22 ∨ (c = 21 ∧ 3 ≤ k ∧ k ≤ 8) ∨ (30 ≤ c ∧ c ≤ 37) ∨ (c = 9 ∧ 6 ≤ k) ∨ (c = 23 ∧ 5 ≤ k) ∨ c = 47 ∨ (c = 15 ∧ (k = 6 ∨ k = 7)) ∨ (109 ≤ c ∧ c ≤ 116) ∨ (118 ≤ c ∧ c ≤ 122) ∨ c = 129 ∨ c = 136 ∨ (c = 81 ∧ (k = 41 ∨ k = 42 ∨ (44 ≤ k ∧ k ≤ 49) ∨ k = 51 ∨ (53 ≤ k ∧ k ≤ 65) ∨ (79 ≤ k ∧ k ≤ 82)))
theorem eqS_in {G : GS} (h : InvE G) : gi G 81 0 = gi G 0 14 ∧ gi G 81 1 = gi G 1 7 ∧ gi G 81 10 = gi G 9 5 ∧ gi G 81 16 = gi G 0 12 ∧ gi G 81 43 = gi G 15 1 ∧ gi G 81 50 = gi G 15 8 ∧ gi G 81 52 = gi G 15 9 ∧ gi G 81 66 = gi G 38 6 := ⟨h.2 ((81, 0), (0, 14)) (by decide), h.2 ((81, 1), (1, 7)) (by decide), h.2 ((81, 10), (9, 5)) (by decide), h.2 ((81, 16), (0, 12)) (by decide), h.2 ((81, 43), (15, 1)) (by decide), h.2 ((81, 50), (15, 8)) (by decide), h.2 ((81, 52), (15, 9)) (by decide), h.2 ((81, 66), (38, 6)) (by decide)⟩
theorem InvE_hin {G G' : GS} (hi : ∀ c k, ¬ scr c k → gi G' c k = gi G c k) (h : InvE G) : InvE G' := by
  refine InvE_fr (fun q hq k => ?_) (fun q hq => ?_) h
  · have := eqC_rng q hq
    left
    exact ⟨hi _ _ (by unfold scr; omega), hi _ _ (by unfold scr; omega)⟩
  · simp only [eqS, List.mem_cons, List.not_mem_nil, or_false] at hq
    rcases hq with rfl | rfl | rfl | rfl | rfl | rfl | rfl | rfl <;> exact Or.inl ⟨hi _ _ (by unfold scr; dsimp only; omega), hi _ _ (by unfold scr; dsimp only; omega)⟩
theorem Inv_scr {G G' : GS} (hi : ∀ c k, ¬ scr c k → gi G' c k = gi G c k) (hp : ∀ c k, gp G' c k = gp G c k) (h : Inv G) : Inv G' := by
  obtain ⟨hE, hP, hL, hR, hS, hT, hM, hJ, hK⟩ := h
  have h14 := hi 0 14 (by unfold scr; omega)
  have h17 := hi 1 7 (by unfold scr; omega)
  have h95 := hi 9 5 (by unfold scr; omega)
  have n1 := hP.2.1
  exact ⟨InvE_hin hi hE, InvP_fr (by omega) (by omega) h17 (fun c k q => hi _ _ (by unfold scr; omega)) hP, InvL_fr (by omega) h95 (fun c k q => hi _ _ (by unfold scr; omega)) hL, InvR_fr (hi _ _ (by unfold scr; omega)) (fun k => hi _ _ (by unfold scr; omega)) hR, InvS_fr (by omega) (by omega) (by omega) (hi _ _ (by unfold scr; omega)) (fun c k q => hi _ _ (by unfold scr; omega)) hS, InvT_fr (hi _ _ (by unfold scr; omega)) (fun c k q => hi _ _ (by unfold scr; omega)) hT, InvM_fr h17 (fun k => hi _ _ (by unfold scr; omega)) (fun c k q => hi _ _ (by unfold scr; omega)) hM, InvJ_fr (by omega) (fun k => hi _ _ (by unfold scr; omega)) (hi _ _ (by unfold scr; omega)) (hi _ _ (by unfold scr; omega)) (fun k => hi _ _ (by unfold scr; omega)) (Or.inl (hi _ _ (by unfold scr; omega))) (hi _ _ (by unfold scr; omega)) hJ, InvK_fr hp (fun c k q => hi _ _ (by unfold scr; omega)) hK⟩
