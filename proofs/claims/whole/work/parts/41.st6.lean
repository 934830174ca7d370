/-! a new LAND (printed by wip/whole/steps5.py) -/
def addL (G : GS) (n : Nat) (s v p : Int) : GS := si (si (si (si G 10 n s) 11 n v) 12 n p) 9 5 (n + 1)
def addN (G : GS) (n : Nat) (s v p : Int) : GS := si (si (si (si G 90 n s) 91 n v) 92 n p) 81 10 (n + 1)
theorem L_add {G : GS} {s v p : Int} (h0 : 0 ≤ gi G 9 5) (h1 : gi G 9 5 ≤ 12) : f_Lands_add G s v p = some (if gi G 9 5 < 12 then (gi G 9 5, addL G (gi G 9 5).toNat s v p) else (-1, G)) := by
  unfold f_Lands_add
  by_cases c : gi G 9 5 < 12
  · have hw : wr (gi G 9 5 + 1) = gi G 9 5 + 1 := wr_of (by omega) (by omega)
    simp [wG, gd, gi_si, c, h0, addL, hw, wr_gi, Int.toNat_of_nonneg h0]
  · simp [c]
theorem H_land {G : GS} {s v p : Int} (h0 : 0 ≤ gi G 9 5) (h1 : gi G 9 5 ≤ 12) : f_Hall_land G s v p = some (if (0 ≤ s ∧ s ≤ 3) ∧ (0 ≤ v ∧ v ≤ 2) ∧ (p = -1 ∨ (0 ≤ p ∧ p < gi G 1 7)) ∧ gi G 9 5 < 12 then (gi G 9 5, addL G (gi G 9 5).toNat s v p) else (-1, G)) := by
  have hp := L_add (s := s) (v := v) (p := p) h0 h1
  have hh := has_eq G p
  generalize addL G (gi G 9 5).toNat s v p = G2 at *
  grind (splits := 20) [f_Hall_land, f_Hall_land_L36]
theorem N_add {G : GS} {s v p : Int} (h0 : 0 ≤ gi G 81 10) (h1 : gi G 81 10 ≤ 12) : f_Model_land_L36 G s v p = some (if gi G 81 10 < 12 then (gi G 81 10, addN G (gi G 81 10).toNat s v p) else (-1, G)) := by
  unfold f_Model_land_L36
  by_cases c : gi G 81 10 < 12
  · have hw : wr (gi G 81 10 + 1) = gi G 81 10 + 1 := wr_of (by omega) (by omega)
    have c6 : gi G 81 10 ≠ 12 := by omega
    simp [wG, gd, gi_si, c, c6, h0, addN, hw, wr_gi, Int.toNat_of_nonneg h0]
  · have c6 : gi G 81 10 = 12 := by omega
    simp [c6]
theorem M_land {G : GS} {s v p : Int} (h0 : 0 ≤ gi G 81 10) (h1 : gi G 81 10 ≤ 12) (h2 : 0 ≤ gi G 81 1) (h3 : gi G 81 1 ≤ 32) : f_Model_land G s v p = some (if (0 ≤ s ∧ s ≤ 3) ∧ (0 ≤ v ∧ v ≤ 2) ∧ (p = -1 ∨ (0 ≤ p ∧ p < gi G 81 1)) ∧ gi G 81 10 < 12 then (gi G 81 10, addN (si G 81 85 0) (gi G 81 10).toNat s v p) else (-1, si G 81 85 0)) := by
  have g1 : gi (si G 81 85 0) 81 10 = gi G 81 10 := by simp [gi_si]
  have g2 : gi (si G 81 85 0) 81 1 = gi G 81 1 := by simp [gi_si]
  have hp := N_add (G := si G 81 85 0) (s := s) (v := v) (p := p) (by omega) (by omega)
  have hh := isPerson_eq (G := si G 81 85 0) p (by omega) (by omega)
  rw [g1] at hp
  rw [g2] at hh
  unfold f_Model_land wG
  generalize addN (si G 81 85 0) (gi G 81 10).toNat s v p = G2 at *
  generalize si G 81 85 0 = G1 at *
  grind (splits := 20) [isIn_eq]
theorem step_land : Step_land Inv := by
  intro G s v p hs hv hp hI
  have hI' := hI
  obtain ⟨hE, hP, hL, hR, hS, hT, hM, hJ, hK⟩ := hI
  have e1 := hE.2 ((81, 1), (1, 7)) (by decide)
  simp only at e1
  have e10 := hE.2 ((81, 10), (9, 5)) (by decide)
  simp only at e10
  have n0 := hP.1
  have n1 := hP.2.1
  have k0 := hP.2.2.1
  have k1 := hP.2.2.2.1
  have l0 := hL.1
  have l1 := hL.2.1
  have w0 : wr 0 = 0 := wr_of (by omega) (by omega)
  by_cases c : (0 ≤ s ∧ s ≤ 3) ∧ (0 ≤ v ∧ v ≤ 2) ∧ (p = -1 ∨ (0 ≤ p ∧ p < gi G 1 7)) ∧ gi G 9 5 < 12
  · obtain ⟨n, hn⟩ : ∃ n : Nat, n = (gi G 9 5).toNat := ⟨_, rfl⟩
    have hw : wr ((n : Int) + 1) = (n : Int) + 1 := wr_of (by omega) (by omega)
    have hG : ∀ c k, 81 ≤ c → gi (addL G n s v p) c k = gi G c k := fun c k q => by
      simp only [addL, gi_si]
      repeat rw [if_neg (by omega)]
    refine ⟨(gi G 9 5, addL G n s v p), (gi G 9 5, addN (si (addL G n s v p) 81 85 0) n s v p), ?_, ?_, rfl, ?_⟩
    · rw [H_land l0 l1, if_pos c, hn]
    · show f_Model_land (addL G n s v p) s v p = _
      rw [M_land (by rw [hG _ _ (by omega)]; omega) (by rw [hG _ _ (by omega)]; omega) (by rw [hG _ _ (by omega)]; omega) (by rw [hG _ _ (by omega)]; omega), hG 81 1 (by omega), hG 81 10 (by omega), e1, e10, if_pos c, hn]
    · have hin : ∀ c k, ¬ ((c = 10 ∧ k = n) ∨ (c = 11 ∧ k = n) ∨ (c = 12 ∧ k = n) ∨ (c = 9 ∧ k = 5) ∨ (c = 81 ∧ k = 85) ∨ (c = 90 ∧ k = n) ∨ (c = 91 ∧ k = n) ∨ (c = 92 ∧ k = n) ∨ (c = 81 ∧ k = 10)) → gi (addN (si (addL G n s v p) 81 85 0) n s v p) c k = gi G c k := fun c k q => by
        simp only [not_or] at q
        simp only [addN, addL, gi_si]
        repeat rw [if_neg (by omega)]
      have hv0 : gi (addN (si (addL G n s v p) 81 85 0) n s v p) 10 n = s := by simp [gi_si, addN, addL, hs, hv, hp, w0, hw]
      have hv1 : gi (addN (si (addL G n s v p) 81 85 0) n s v p) 11 n = v := by simp [gi_si, addN, addL, hs, hv, hp, w0, hw]
      have hv2 : gi (addN (si (addL G n s v p) 81 85 0) n s v p) 12 n = p := by simp [gi_si, addN, addL, hs, hv, hp, w0, hw]
      have hv3 : gi (addN (si (addL G n s v p) 81 85 0) n s v p) 9 5 = (n : Int) + 1 := by simp [gi_si, addN, addL, hs, hv, hp, w0, hw]
      have hv4 : gi (addN (si (addL G n s v p) 81 85 0) n s v p) 81 85 = 0 := by simp [gi_si, addN, addL, hs, hv, hp, w0, hw]
      have hv5 : gi (addN (si (addL G n s v p) 81 85 0) n s v p) 90 n = s := by simp [gi_si, addN, addL, hs, hv, hp, w0, hw]
      have hv6 : gi (addN (si (addL G n s v p) 81 85 0) n s v p) 91 n = v := by simp [gi_si, addN, addL, hs, hv, hp, w0, hw]
      have hv7 : gi (addN (si (addL G n s v p) 81 85 0) n s v p) 92 n = p := by simp [gi_si, addN, addL, hs, hv, hp, w0, hw]
      have hv8 : gi (addN (si (addL G n s v p) 81 85 0) n s v p) 81 10 = (n : Int) + 1 := by simp [gi_si, addN, addL, hs, hv, hp, w0, hw]
      have hgp : ∀ c k, gp (addN (si (addL G n s v p) 81 85 0) n s v p) c k = gp G c k := fun _ _ => rfl
      have u0_14 := hin 0 14 (by omega)
      have u1_7 := hin 1 7 (by omega)
      show Inv (addN (si (addL G n s v p) 81 85 0) n s v p)
      generalize addN (si (addL G n s v p) 81 85 0) n s v p = G2 at *
      refine ⟨InvE_fr ?_ ?_ hE, InvP_fr (by omega) (by omega) (hin _ _ (by omega)) (fun c k h => hin _ _ (by omega)) hP, ⟨by omega, by omega, fun x hx => by
          by_cases z : x = n
          · unfold LOK
            rw [z, hv0, hv1, hv2, u1_7]
            omega
          · have h0 := hL.2.2.1 x (by omega)
            unfold LOK at h0 ⊢
            rw [hin 10 x (by omega), hin 11 x (by omega), hin 12 x (by omega), u1_7]
            exact h0, fun k => by rw [hin 13 k (by omega), hin 14 k (by omega)]; exact hL.2.2.2 k⟩, InvR_fr (hin _ _ (by omega)) (fun k => hin _ _ (by omega)) hR, InvS_fr (by omega) (by omega) (by omega) (hin _ _ (by omega)) (fun c k h => hin _ _ (by omega)) hS, InvT_fr (hin _ _ (by omega)) (fun c k h => hin _ _ (by omega)) hT, InvM_fr (hin _ _ (by omega)) (fun k => hin _ _ (by omega)) (fun c k h => hin _ _ (by omega)) hM, InvJ_fr (by omega) (fun k => hin _ _ (by omega)) (hin _ _ (by omega)) (hin _ _ (by omega)) (fun k => hin _ _ (by omega)) (Or.inr hv4) (hin _ _ (by omega)) hJ, InvK_fr hgp (fun c k h => hin _ _ (by omega)) hK⟩
      · intro q hq k
        have := eqC_rng q hq
        by_cases z10 : k = n ∧ q.2 = 10
        · obtain ⟨rfl, z⟩ := z10
          right
          rw [z, show q.1 = 90 by omega, hv0, hv5]
        by_cases z11 : k = n ∧ q.2 = 11
        · obtain ⟨rfl, z⟩ := z11
          right
          rw [z, show q.1 = 91 by omega, hv1, hv6]
        by_cases z12 : k = n ∧ q.2 = 12
        · obtain ⟨rfl, z⟩ := z12
          right
          rw [z, show q.1 = 92 by omega, hv2, hv7]
        left
        exact ⟨hin _ _ (by omega), hin _ _ (by omega)⟩
      · intro q hq
        simp only [eqS, List.mem_cons, List.not_mem_nil, or_false] at hq
        rcases hq with rfl | rfl | rfl | rfl | rfl | rfl | rfl | rfl
        · exact Or.inl ⟨hin 81 0 (by omega), hin 0 14 (by omega)⟩
        · exact Or.inl ⟨hin 81 1 (by omega), hin 1 7 (by omega)⟩
        · exact Or.inr (hv8.trans hv3.symm)
        · exact Or.inl ⟨hin 81 16 (by omega), hin 0 12 (by omega)⟩
        · exact Or.inl ⟨hin 81 43 (by omega), hin 15 1 (by omega)⟩
        · exact Or.inl ⟨hin 81 50 (by omega), hin 15 8 (by omega)⟩
        · exact Or.inl ⟨hin 81 52 (by omega), hin 15 9 (by omega)⟩
        · exact Or.inl ⟨hin 81 66 (by omega), hin 38 6 (by omega)⟩
  · refine ⟨(-1, G), (-1, si G 81 85 0), ?_, ?_, rfl, ?_⟩
    · rw [H_land l0 l1, if_neg c]
    · show f_Model_land G s v p = _
      rw [M_land (by omega) (by omega) (by omega) (by omega), e1, e10, if_neg c]
    · have hin : ∀ c k, ¬ ((c = 81 ∧ k = 85)) → gi (si G 81 85 0) c k = gi G c k := fun c k q => by
        try simp only [not_or] at q
        simp only [gi_si]
        repeat rw [if_neg (by omega)]
      have hv0 : gi (si G 81 85 0) 81 85 = 0 := by simp [gi_si, w0]
      have hgp : ∀ c k, gp (si G 81 85 0) c k = gp G c k := fun _ _ => rfl
      have u0_14 := hin 0 14 (by omega)
      have u1_7 := hin 1 7 (by omega)
      have u9_5 := hin 9 5 (by omega)
      show Inv (si G 81 85 0)
      generalize si G 81 85 0 = G2 at *
      refine ⟨InvE_fr ?_ ?_ hE, InvP_fr (by omega) (by omega) (hin _ _ (by omega)) (fun c k h => hin _ _ (by omega)) hP, InvL_fr (by omega) (hin _ _ (by omega)) (fun c k h => hin _ _ (by omega)) hL, InvR_fr (hin _ _ (by omega)) (fun k => hin _ _ (by omega)) hR, InvS_fr (by omega) (by omega) (by omega) (hin _ _ (by omega)) (fun c k h => hin _ _ (by omega)) hS, InvT_fr (hin _ _ (by omega)) (fun c k h => hin _ _ (by omega)) hT, InvM_fr (hin _ _ (by omega)) (fun k => hin _ _ (by omega)) (fun c k h => hin _ _ (by omega)) hM, InvJ_fr (by omega) (fun k => hin _ _ (by omega)) (hin _ _ (by omega)) (hin _ _ (by omega)) (fun k => hin _ _ (by omega)) (Or.inr hv0) (hin _ _ (by omega)) hJ, InvK_fr hgp (fun c k h => hin _ _ (by omega)) hK⟩
      · intro q hq k
        have := eqC_rng q hq
        left
        exact ⟨hin _ _ (by omega), hin _ _ (by omega)⟩
      · intro q hq
        simp only [eqS, List.mem_cons, List.not_mem_nil, or_false] at hq
        rcases hq with rfl | rfl | rfl | rfl | rfl | rfl | rfl | rfl
        · exact Or.inl ⟨hin 81 0 (by omega), hin 0 14 (by omega)⟩
        · exact Or.inl ⟨hin 81 1 (by omega), hin 1 7 (by omega)⟩
        · exact Or.inl ⟨hin 81 10 (by omega), hin 9 5 (by omega)⟩
        · exact Or.inl ⟨hin 81 16 (by omega), hin 0 12 (by omega)⟩
        · exact Or.inl ⟨hin 81 43 (by omega), hin 15 1 (by omega)⟩
        · exact Or.inl ⟨hin 81 50 (by omega), hin 15 8 (by omega)⟩
        · exact Or.inl ⟨hin 81 52 (by omega), hin 15 9 (by omega)⟩
        · exact Or.inl ⟨hin 81 66 (by omega), hin 38 6 (by omega)⟩
