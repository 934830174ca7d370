/-! steps of the simple operations (printed by wip/whole/steps.py) -/
theorem eqC_rng : ∀ q ∈ eqC, 82 ≤ q.1 ∧ q.1 ≤ 135 ∧ 2 ≤ q.2 ∧ q.2 ≤ 74 ∧ ((q.2 ≤ 8 ∧ q.1 = q.2 + 80) ∨ (10 ≤ q.2 ∧ q.2 ≤ 14 ∧ q.1 = q.2 + 80) ∨ (q.2 = 25 ∧ q.1 = 89) ∨ (q.2 = 74 ∧ q.1 = 95) ∨ (39 ≤ q.2 ∧ q.2 ≤ 44 ∧ q.1 = q.2 + 84) ∨ (q.2 = 24 ∧ q.1 = 130) ∨ (q.2 = 46 ∧ q.1 = 135)) := by decide
theorem eqS_fr {G G2 : GS} (h : ∀ q ∈ eqS, (gi G2 q.1.1 q.1.2 = gi G q.1.1 q.1.2 ∧ gi G2 q.2.1 q.2.2 = gi G q.2.1 q.2.2) ∨ gi G2 q.1.1 q.1.2 = gi G2 q.2.1 q.2.2) : ∀ q ∈ eqS, (gi G2 q.1.1 q.1.2 = gi G q.1.1 q.1.2 ∧ gi G2 q.2.1 q.2.2 = gi G q.2.1 q.2.2) ∨ gi G2 q.1.1 q.1.2 = gi G2 q.2.1 q.2.2 := h
theorem step_days : Step_days Inv := by
  intro G a1 h1 hI
  have hI' := hI
  obtain ⟨hE, hP, hL, hR, hS, hT, hM, hJ, hK⟩ := hI
  have e0 := hE.2 ((81, 0), (0, 14)) (by decide)
  simp only at e0
  have n0 := hP.1
  have n1 := hP.2.1
  by_cases c : 1 ≤ a1 ∧ a1 ≤ 9999 ∧ gi G 0 14 + a1 ≤ 29999
  · obtain ⟨v, hvv⟩ : ∃ v, v = gi G 0 14 + a1 := ⟨_, rfl⟩
    have hw : wr v = v := wr_of (by omega) (by omega)
    refine ⟨(v, si G 0 14 v), (v, si (si G 0 14 v) 81 0 v), ?_, ?_, rfl, ?_⟩
    · rw [H_days n0 n1, if_pos c, hvv]
    · rw [M_days (by simp [gi_si]; omega) (by simp [gi_si]; omega)]
      simp [gi_si, e0, c, hvv]
    · have hin : ∀ c k, ¬ ((c = 0 ∧ k = 14) ∨ (c = 81 ∧ k = 0)) → gi (si (si G 0 14 v) 81 0 v) c k = gi G c k := fun c k q => by
        simp only [not_or] at q
        simp only [gi_si]
        repeat rw [if_neg (by omega)]
      have hv0 : gi (si (si G 0 14 v) 81 0 v) 0 14 = v := by simp [gi_si, hw]
      have hv1 : gi (si (si G 0 14 v) 81 0 v) 81 0 = v := by simp [gi_si, hw]
      have hgp : ∀ c k, gp (si (si G 0 14 v) 81 0 v) c k = gp G c k := fun _ _ => rfl
      have u1_7 := hin 1 7 (by omega)
      have u9_5 := hin 9 5 (by omega)
      show Inv (si (si G 0 14 v) 81 0 v)
      generalize si (si G 0 14 v) 81 0 v = G2 at *
      refine ⟨InvE_fr ?_ ?_ hE, InvP_fr (by omega) (by omega) (hin _ _ (by omega)) (fun c k h => hin _ _ (by omega)) hP, InvL_fr (by omega) (hin _ _ (by omega)) (fun c k h => hin _ _ (by omega)) hL, InvR_fr (hin _ _ (by omega)) (fun k => hin _ _ (by omega)) hR, InvS_fr (by omega) (by omega) (by omega) (hin _ _ (by omega)) (fun c k h => hin _ _ (by omega)) hS, InvT_fr (hin _ _ (by omega)) (fun c k h => hin _ _ (by omega)) hT, InvM_fr (hin _ _ (by omega)) (fun k => hin _ _ (by omega)) (fun c k h => hin _ _ (by omega)) hM, InvJ_fr (by omega) (fun k => hin _ _ (by omega)) (hin _ _ (by omega)) (hin _ _ (by omega)) (fun k => hin _ _ (by omega)) (Or.inl (hin _ _ (by omega))) (hin _ _ (by omega)) hJ, InvK_fr hgp (fun c k h => hin _ _ (by omega)) hK⟩
      · intro q hq k
        have := eqC_rng q hq
        left
        exact ⟨hin _ _ (by omega), hin _ _ (by omega)⟩
      · intro q hq
        simp only [eqS, List.mem_cons, List.not_mem_nil, or_false] at hq
        rcases hq with rfl | rfl | rfl | rfl | rfl | rfl | rfl | rfl
        · exact Or.inr (hv1.trans hv0.symm)
        · exact Or.inl ⟨hin 81 1 (by omega), hin 1 7 (by omega)⟩
        · exact Or.inl ⟨hin 81 10 (by omega), hin 9 5 (by omega)⟩
        · exact Or.inl ⟨hin 81 16 (by omega), hin 0 12 (by omega)⟩
        · exact Or.inl ⟨hin 81 43 (by omega), hin 15 1 (by omega)⟩
        · exact Or.inl ⟨hin 81 50 (by omega), hin 15 8 (by omega)⟩
        · exact Or.inl ⟨hin 81 52 (by omega), hin 15 9 (by omega)⟩
        · exact Or.inl ⟨hin 81 66 (by omega), hin 38 6 (by omega)⟩
  · exact ⟨(-1, G), (-1, G), by rw [H_days n0 n1, if_neg c], by show f_Model_days G a1 = _; rw [M_days (by omega) (by omega), e0, if_neg c], rfl, hI'⟩
theorem H_dies {G : GS} {p d : Int} (h1 : gi G 1 7 ≤ 32) : f_Hall_dies G p d = some (if 0 ≤ p ∧ p < gi G 1 7 ∧ gi G 7 p.toNat = -1 ∧ gi G 5 p.toNat ≤ d ∧ d ≤ gi G 0 14 then (1, si G 7 p.toNat d) else (0, G)) := by
  grind [f_Hall_dies, has_eq, isDead_eq, gd, wG]
theorem M_dies {G : GS} {p d : Int} (h0 : 0 ≤ gi G 81 1) (h1 : gi G 81 1 ≤ 32) : f_Model_dies G p d = some (if 0 ≤ p ∧ p < gi G 81 1 ∧ gi G 87 p.toNat = -1 ∧ gi G 85 p.toNat ≤ d ∧ d ≤ gi G 81 0 then (1, si G 87 p.toNat d) else (0, G)) := by
  grind [f_Model_dies, isPerson_eq, isIn_eq, gd, wG]
theorem step_dies : Step_dies Inv := by
  intro G p d hp hd hI
  have hI' := hI
  obtain ⟨hE, hP, hL, hR, hS, hT, hM, hJ, hK⟩ := hI
  have e0 := hE.2 ((81, 0), (0, 14)) (by decide)
  simp only at e0
  have e1 := hE.2 ((81, 1), (1, 7)) (by decide)
  simp only at e1
  have n0 := hP.1
  have n1 := hP.2.1
  have k0 := hP.2.2.1
  have k1 := hP.2.2.2.1
  have e7 := hE.1 (87, 7) (by decide) p.toNat
  have e5 := hE.1 (85, 5) (by decide) p.toNat
  simp only at e7 e5
  by_cases c : 0 ≤ p ∧ p < gi G 1 7 ∧ gi G 7 p.toNat = -1 ∧ gi G 5 p.toNat ≤ d ∧ d ≤ gi G 0 14
  · refine ⟨(1, si G 7 p.toNat d), (1, si (si G 7 p.toNat d) 87 p.toNat d), ?_, ?_, rfl, ?_⟩
    · rw [H_dies k1, if_pos c]
    · rw [M_dies (by simp [gi_si]; omega) (by simp [gi_si]; omega)]
      simp [gi_si, e0, e1, e7, e5, c]
    · have hin : ∀ c k, ¬ ((c = 7 ∧ k = p.toNat) ∨ (c = 87 ∧ k = p.toNat)) → gi (si (si G 7 p.toNat d) 87 p.toNat d) c k = gi G c k := fun c k q => by
        simp only [not_or] at q
        simp only [gi_si]
        repeat rw [if_neg (by omega)]
      have hv0 : gi (si (si G 7 p.toNat d) 87 p.toNat d) 7 p.toNat = d := by simp [gi_si, hd]
      have hv1 : gi (si (si G 7 p.toNat d) 87 p.toNat d) 87 p.toNat = d := by simp [gi_si, hd]
      have hgp : ∀ c k, gp (si (si G 7 p.toNat d) 87 p.toNat d) c k = gp G c k := fun _ _ => rfl
      have u0_14 := hin 0 14 (by omega)
      have u1_7 := hin 1 7 (by omega)
      have u9_5 := hin 9 5 (by omega)
      show Inv (si (si G 7 p.toNat d) 87 p.toNat d)
      generalize si (si G 7 p.toNat d) 87 p.toNat d = G2 at *
      refine ⟨InvE_fr ?_ ?_ hE, ⟨by omega, by omega, by omega, by omega, fun x hx => by
        have h0 := hP.2.2.2.2.1 x (by omega)
        unfold POK at h0 ⊢
        have hx7 : gi G2 7 x = if x = p.toNat then d else gi G 7 x := by
          by_cases z : x = p.toNat
          · rw [if_pos z, z, hv0]
          · rw [if_neg z]; exact hin _ _ (by omega)
        have rr : ∀ c : Nat, c ≠ 7 → c ≠ 87 → ∀ k, gi G2 c k = gi G c k := fun c q1 q2 k => hin c k (by omega)
        simp only [rr 2 (by decide) (by decide), rr 3 (by decide) (by decide), rr 4 (by decide) (by decide), rr 5 (by decide) (by decide), rr 6 (by decide) (by decide), rr 8 (by decide) (by decide), rr 25 (by decide) (by decide), u0_14, u1_7, hx7]
        refine ⟨h0.1, h0.2.1, h0.2.2.1, h0.2.2.2.1, ?_, h0.2.2.2.2.2⟩
        by_cases z : x = p.toNat
        · rw [if_pos z, z]; omega
        · rw [if_neg z]; exact h0.2.2.2.2.1, fun x hx => by rw [hin 25 _ (by omega)]; exact hP.2.2.2.2.2 x (by omega)⟩, InvL_fr (by omega) (hin _ _ (by omega)) (fun c k h => hin _ _ (by omega)) hL, InvR_fr (hin _ _ (by omega)) (fun k => hin _ _ (by omega)) hR, InvS_fr (by omega) (by omega) (by omega) (hin _ _ (by omega)) (fun c k h => hin _ _ (by omega)) hS, InvT_fr (hin _ _ (by omega)) (fun c k h => hin _ _ (by omega)) hT, InvM_fr (hin _ _ (by omega)) (fun k => hin _ _ (by omega)) (fun c k h => hin _ _ (by omega)) hM, InvJ_fr (by omega) (fun k => hin _ _ (by omega)) (hin _ _ (by omega)) (hin _ _ (by omega)) (fun k => hin _ _ (by omega)) (Or.inl (hin _ _ (by omega))) (hin _ _ (by omega)) hJ, InvK_fr hgp (fun c k h => hin _ _ (by omega)) hK⟩
      · intro q hq k
        have := eqC_rng q hq
        by_cases z : k = p.toNat ∧ q.2 = 7
        · obtain ⟨rfl, z⟩ := z
          right
          rw [z, show q.1 = 87 by omega, hv0, hv1]
        · left
          exact ⟨hin _ _ (by omega), hin _ _ (by omega)⟩
      · intro q hq
        simp only [eqS, List.mem_cons, List.not_mem_nil, or_false] at hq
        rcases hq with rfl | rfl | rfl | rfl | rfl | rfl | rfl | rfl
        · exact Or.inl ⟨hin 81 0 (by omega), hin 0 14 (by omega)⟩
        · exact Or.inl ⟨hin 81 1 (by omega), hin 1 7 (by omega)⟩
        · exact Or.inl ⟨hin 81 10 (by omega), hin 9 5 (by omega)⟩
        · exact Or.inl ⟨hin 81 16 (by omega), hin 0 12 (by omega)⟩
        · exact Or.inl ⟨hin 81 43 (by omega), hin 15 1 (by omega)⟩
        · exact Or.inl ⟨hin 81 50 (by omega), hin 15 8 (by omega)⟩
        · exact Or.inl ⟨hin 81 52 (by omega), hin 15 9 (by omega)⟩
        · exact Or.inl ⟨hin 81 66 (by omega), hin 38 6 (by omega)⟩
  · exact ⟨(0, G), (0, G), by rw [H_dies k1, if_neg c], by show f_Model_dies G p d = _; rw [M_dies (by omega) (by omega), e0, e1, e7, e5, if_neg c], rfl, hI'⟩
