/-! steps that write a few cells (printed by wip/whole/steps2.py) -/
theorem H_marry {G : GS} {p w : Int} (h1 : gi G 1 7 ≤ 32) : f_Hall_marry G p w = some (if 0 ≤ p ∧ p < gi G 1 7 ∧ gi G 2 p.toNat = 0 ∧ (w = -1 ∨ (0 ≤ w ∧ w < gi G 1 7 ∧ gi G 2 w.toNat = 1)) then (1, si G 8 p.toNat w) else (0, G)) := by
  grind [f_Hall_marry, f_Hall_marry_L29, isMan_eq, isWoman_eq, gd, wG]
theorem M_marry {G : GS} {p w : Int} (h0 : 0 ≤ gi G 81 1) (h1 : gi G 81 1 ≤ 32) : f_Model_marry G p w = some (if 0 ≤ p ∧ p < gi G 81 1 ∧ gi G 82 p.toNat = 0 ∧ (w = -1 ∨ (0 ≤ w ∧ w < gi G 81 1 ∧ gi G 82 w.toNat = 1)) then (1, si G 88 p.toNat w) else (0, G)) := by
  grind [f_Model_marry, isPerson_eq, isOf_eq, gd, wG]
theorem step_marry : Step_marry Inv := by
  intro G p w hp hw hI
  have hI' := hI
  obtain ⟨hE, hP, hL, hR, hS, hT, hM, hJ, hK⟩ := hI
  have e0 := hE.2 ((81, 0), (0, 14)) (by decide)
  simp only at e0
  have e1 := hE.2 ((81, 1), (1, 7)) (by decide)
  simp only at e1
  have n0 := hP.1
  have n1 := hP.2.1
  have k0 := hP.2.2.1
  have k1 := hP.2.2.2.1
  have e2 := hE.1 (82, 2) (by decide) p.toNat
  have e2w := hE.1 (82, 2) (by decide) w.toNat
  simp only at e2 e2w
  by_cases c : 0 ≤ p ∧ p < gi G 1 7 ∧ gi G 2 p.toNat = 0 ∧ (w = -1 ∨ (0 ≤ w ∧ w < gi G 1 7 ∧ gi G 2 w.toNat = 1))
  · refine ⟨(1, si G 8 p.toNat w), (1, si (si G 8 p.toNat w) 88 p.toNat w), ?_, ?_, rfl, ?_⟩
    · rw [H_marry k1, if_pos c]
    · rw [M_marry (by simp [gi_si]; omega) (by simp [gi_si]; omega)]
      simp [gi_si, e1, e2, e2w, c]
    · have hin : ∀ c k, ¬ ((c = 8 ∧ k = p.toNat) ∨ (c = 88 ∧ k = p.toNat)) → gi (si (si G 8 p.toNat w) 88 p.toNat w) c k = gi G c k := fun c k q => by
        simp only [not_or] at q
        simp only [gi_si]
        repeat rw [if_neg (by omega)]
      have hv0 : gi (si (si G 8 p.toNat w) 88 p.toNat w) 8 p.toNat = w := by simp [gi_si, hw]
      have hv1 : gi (si (si G 8 p.toNat w) 88 p.toNat w) 88 p.toNat = w := by simp [gi_si, hw]
      have hgp : ∀ c k, gp (si (si G 8 p.toNat w) 88 p.toNat w) c k = gp G c k := fun _ _ => rfl
      have u0_14 := hin 0 14 (by omega)
      have u1_7 := hin 1 7 (by omega)
      have u9_5 := hin 9 5 (by omega)
      show Inv (si (si G 8 p.toNat w) 88 p.toNat w)
      generalize si (si G 8 p.toNat w) 88 p.toNat w = G2 at *
      refine ⟨InvE_fr ?_ ?_ hE, ⟨by omega, by omega, by omega, by omega, fun x hx => by
        have h0 := hP.2.2.2.2.1 x (by omega)
        unfold POK at h0 ⊢
        have hx8 : gi G2 8 x = if x = p.toNat then w else gi G 8 x := by
          by_cases z : x = p.toNat
          · rw [if_pos z, z, hv0]
          · rw [if_neg z]; exact hin _ _ (by omega)
        have rr : ∀ c : Nat, c ≠ 8 → c ≠ 88 → ∀ k, gi G2 c k = gi G c k := fun c q0 q1 k => hin c k (by omega)
        simp only [rr 2 (by decide) (by decide), rr 3 (by decide) (by decide), rr 4 (by decide) (by decide), rr 5 (by decide) (by decide), rr 6 (by decide) (by decide), rr 7 (by decide) (by decide), rr 25 (by decide) (by decide), u0_14, u1_7, hx8]
        refine ⟨h0.1, h0.2.1, h0.2.2.1, h0.2.2.2.1, h0.2.2.2.2.1, ?_, h0.2.2.2.2.2.2⟩
        by_cases z : x = p.toNat
        · rw [if_pos z]; omega
        · rw [if_neg z]; exact h0.2.2.2.2.2.1, fun x hx => by rw [hin 25 _ (by omega)]; exact hP.2.2.2.2.2 x (by omega)⟩, InvL_fr (by omega) (hin _ _ (by omega)) (fun c k h => hin _ _ (by omega)) hL, InvR_fr (hin _ _ (by omega)) (fun k => hin _ _ (by omega)) hR, InvS_fr (by omega) (by omega) (by omega) (hin _ _ (by omega)) (fun c k h => hin _ _ (by omega)) hS, InvT_fr (hin _ _ (by omega)) (fun c k h => hin _ _ (by omega)) hT, InvM_fr (hin _ _ (by omega)) (fun k => hin _ _ (by omega)) (fun c k h => hin _ _ (by omega)) hM, InvJ_fr (by omega) (fun k => hin _ _ (by omega)) (hin _ _ (by omega)) (hin _ _ (by omega)) (fun k => hin _ _ (by omega)) (Or.inl (hin _ _ (by omega))) (hin _ _ (by omega)) hJ, InvK_fr hgp (fun c k h => hin _ _ (by omega)) hK⟩
      · intro q hq k
        have := eqC_rng q hq
        by_cases z8 : k = p.toNat ∧ q.2 = 8
        · obtain ⟨rfl, z⟩ := z8
          right
          rw [z, show q.1 = 88 by omega, hv0, hv1]
        left
        exact ⟨hin _ _ (by omega), hin _ _ (by omega)⟩
      · intro q hq
        simp only [eqS, List.mem_cons, List.not_mem_nil, or_false] at hq
        rcases hq with rfl | rfl | rfl | rfl | rfl | rfl | rfl | rfl
        · exact Or.inl ⟨hin 81 0 (by omega), hin 0 14 (by omega)⟩
        · exact Or.inl ⟨hin 81 1 (by omega), hin 1 7 (by omega)⟩
        · exact Or.inl ⟨hin 81 10 (by omega), hin 9 5 (by omega)⟩
        · exact Or.inl ⟨hin 81 16 (by omega), hin 0 12 (by omega)⟩
        · exact Or.inl ⟨hin 81 43 (by omega), hin 15 1 (by omega)⟩
        · exact Or.inl ⟨hin 81 50 (by omega), hin 15 8 (by omega)⟩
        · exact Or.inl ⟨hin 81 52 (by omega), hin 15 9 (by omega)⟩
        · exact Or.inl ⟨hin 81 66 (by omega), hin 38 6 (by omega)⟩
  · exact ⟨(0, G), (0, G), by rw [H_marry k1, if_neg c], by show f_Model_marry G p w = _; rw [M_marry (by omega) (by omega), e1, e2, e2w, if_neg c], rfl, hI'⟩
theorem H_born {G : GS} {p a b : Int} (h1 : gi G 1 7 ≤ 32) : f_Hall_born G p a b = some (if 0 ≤ p ∧ p < gi G 1 7 ∧ (0 ≤ a ∧ a ≤ b ∧ b ≤ gi G 0 14) ∧ (gi G 7 p.toNat = -1 ∨ a ≤ gi G 7 p.toNat) then (1, si (si G 5 p.toNat a) 6 p.toNat b) else (0, G)) := by
  by_cases c1 : 0 ≤ p ∧ p < gi G 1 7
  · have c2 : p < 32 := by omega
    simp only [f_Hall_born, has_eq, if_pos c1, isBirth_eq, isDead_eq p h1, Option.bind_some]
    grind (splits := 20) [f_Hall_born_L46, gd, wG]
  · rw [if_neg (fun q => c1 ⟨q.1, q.2.1⟩)]
    simp [f_Hall_born, has_eq, c1]
theorem M_born {G : GS} {p a b : Int} (h0 : 0 ≤ gi G 81 1) (h1 : gi G 81 1 ≤ 32) (h2 : gi G 81 0 ≤ 29999) : f_Model_born G p a b = some (if 0 ≤ p ∧ p < gi G 81 1 ∧ (0 ≤ a ∧ a ≤ b ∧ b ≤ gi G 81 0) ∧ (gi G 87 p.toNat = -1 ∨ a ≤ gi G 87 p.toNat) then (1, si (si G 85 p.toNat a) 86 p.toNat b) else (0, G)) := by
  grind [f_Model_born, f_Model_born_L39, isPerson_eq, isSpan_eq, gd, wG]
theorem step_born : Step_born Inv := by
  intro G p a b hp ha hb hI
  have hI' := hI
  obtain ⟨hE, hP, hL, hR, hS, hT, hM, hJ, hK⟩ := hI
  have e0 := hE.2 ((81, 0), (0, 14)) (by decide)
  simp only at e0
  have e1 := hE.2 ((81, 1), (1, 7)) (by decide)
  simp only at e1
  have n0 := hP.1
  have n1 := hP.2.1
  have k0 := hP.2.2.1
  have k1 := hP.2.2.2.1
  have e7 := hE.1 (87, 7) (by decide) p.toNat
  simp only at e7
  by_cases c : 0 ≤ p ∧ p < gi G 1 7 ∧ (0 ≤ a ∧ a ≤ b ∧ b ≤ gi G 0 14) ∧ (gi G 7 p.toNat = -1 ∨ a ≤ gi G 7 p.toNat)
  · refine ⟨(1, si (si G 5 p.toNat a) 6 p.toNat b), (1, si (si (si (si G 5 p.toNat a) 6 p.toNat b) 85 p.toNat a) 86 p.toNat b), ?_, ?_, rfl, ?_⟩
    · rw [H_born k1, if_pos c]
    · rw [M_born (by simp [gi_si]; omega) (by simp [gi_si]; omega) (by simp [gi_si]; omega)]
      simp [gi_si, e0, e1, e7, c]
    · have hin : ∀ c k, ¬ ((c = 5 ∧ k = p.toNat) ∨ (c = 6 ∧ k = p.toNat) ∨ (c = 85 ∧ k = p.toNat) ∨ (c = 86 ∧ k = p.toNat)) → gi (si (si (si (si G 5 p.toNat a) 6 p.toNat b) 85 p.toNat a) 86 p.toNat b) c k = gi G c k := fun c k q => by
        simp only [not_or] at q
        simp only [gi_si]
        repeat rw [if_neg (by omega)]
      have hv0 : gi (si (si (si (si G 5 p.toNat a) 6 p.toNat b) 85 p.toNat a) 86 p.toNat b) 5 p.toNat = a := by simp [gi_si, ha, hb]
      have hv1 : gi (si (si (si (si G 5 p.toNat a) 6 p.toNat b) 85 p.toNat a) 86 p.toNat b) 6 p.toNat = b := by simp [gi_si, ha, hb]
      have hv2 : gi (si (si (si (si G 5 p.toNat a) 6 p.toNat b) 85 p.toNat a) 86 p.toNat b) 85 p.toNat = a := by simp [gi_si, ha, hb]
      have hv3 : gi (si (si (si (si G 5 p.toNat a) 6 p.toNat b) 85 p.toNat a) 86 p.toNat b) 86 p.toNat = b := by simp [gi_si, ha, hb]
      have hgp : ∀ c k, gp (si (si (si (si G 5 p.toNat a) 6 p.toNat b) 85 p.toNat a) 86 p.toNat b) c k = gp G c k := fun _ _ => rfl
      have u0_14 := hin 0 14 (by omega)
      have u1_7 := hin 1 7 (by omega)
      have u9_5 := hin 9 5 (by omega)
      show Inv (si (si (si (si G 5 p.toNat a) 6 p.toNat b) 85 p.toNat a) 86 p.toNat b)
      generalize si (si (si (si G 5 p.toNat a) 6 p.toNat b) 85 p.toNat a) 86 p.toNat b = G2 at *
      refine ⟨InvE_fr ?_ ?_ hE, ⟨by omega, by omega, by omega, by omega, fun x hx => by
        have h0 := hP.2.2.2.2.1 x (by omega)
        unfold POK at h0 ⊢
        have hx5 : gi G2 5 x = if x = p.toNat then a else gi G 5 x := by
          by_cases z : x = p.toNat
          · rw [if_pos z, z, hv0]
          · rw [if_neg z]; exact hin _ _ (by omega)
        have hx6 : gi G2 6 x = if x = p.toNat then b else gi G 6 x := by
          by_cases z : x = p.toNat
          · rw [if_pos z, z, hv1]
          · rw [if_neg z]; exact hin _ _ (by omega)
        have rr : ∀ c : Nat, c ≠ 5 → c ≠ 6 → c ≠ 85 → c ≠ 86 → ∀ k, gi G2 c k = gi G c k := fun c q0 q1 q2 q3 k => hin c k (by omega)
        simp only [rr 2 (by decide) (by decide) (by decide) (by decide), rr 3 (by decide) (by decide) (by decide) (by decide), rr 4 (by decide) (by decide) (by decide) (by decide), rr 7 (by decide) (by decide) (by decide) (by decide), rr 8 (by decide) (by decide) (by decide) (by decide), rr 25 (by decide) (by decide) (by decide) (by decide), u0_14, u1_7, hx5, hx6]
        refine ⟨h0.1, h0.2.1, h0.2.2.1, ?_, ?_, h0.2.2.2.2.2⟩
        · by_cases z : x = p.toNat
          · rw [if_pos z, if_pos z]; omega
          · rw [if_neg z, if_neg z]; exact h0.2.2.2.1
        · by_cases z : x = p.toNat
          · rw [if_pos z, z]; rw [z] at h0; omega
          · rw [if_neg z]; exact h0.2.2.2.2.1, fun x hx => by rw [hin 25 _ (by omega)]; exact hP.2.2.2.2.2 x (by omega)⟩, InvL_fr (by omega) (hin _ _ (by omega)) (fun c k h => hin _ _ (by omega)) hL, InvR_fr (hin _ _ (by omega)) (fun k => hin _ _ (by omega)) hR, InvS_fr (by omega) (by omega) (by omega) (hin _ _ (by omega)) (fun c k h => hin _ _ (by omega)) hS, InvT_fr (hin _ _ (by omega)) (fun c k h => hin _ _ (by omega)) hT, InvM_fr (hin _ _ (by omega)) (fun k => hin _ _ (by omega)) (fun c k h => hin _ _ (by omega)) hM, InvJ_fr (by omega) (fun k => hin _ _ (by omega)) (hin _ _ (by omega)) (hin _ _ (by omega)) (fun k => hin _ _ (by omega)) (Or.inl (hin _ _ (by omega))) (hin _ _ (by omega)) hJ, InvK_fr hgp (fun c k h => hin _ _ (by omega)) hK⟩
      · intro q hq k
        have := eqC_rng q hq
        by_cases z5 : k = p.toNat ∧ q.2 = 5
        · obtain ⟨rfl, z⟩ := z5
          right
          rw [z, show q.1 = 85 by omega, hv0, hv2]
        by_cases z6 : k = p.toNat ∧ q.2 = 6
        · obtain ⟨rfl, z⟩ := z6
          right
          rw [z, show q.1 = 86 by omega, hv1, hv3]
        left
        exact ⟨hin _ _ (by omega), hin _ _ (by omega)⟩
      · intro q hq
        simp only [eqS, List.mem_cons, List.not_mem_nil, or_false] at hq
        rcases hq with rfl | rfl | rfl | rfl | rfl | rfl | rfl | rfl
        · exact Or.inl ⟨hin 81 0 (by omega), hin 0 14 (by omega)⟩
        · exact Or.inl ⟨hin 81 1 (by omega), hin 1 7 (by omega)⟩
        · exact Or.inl ⟨hin 81 10 (by omega), hin 9 5 (by omega)⟩
        · exact Or.inl ⟨hin 81 16 (by omega), hin 0 12 (by omega)⟩
        · exact Or.inl ⟨hin 81 43 (by omega), hin 15 1 (by omega)⟩
        · exact Or.inl ⟨hin 81 50 (by omega), hin 15 8 (by omega)⟩
        · exact Or.inl ⟨hin 81 52 (by omega), hin 15 9 (by omega)⟩
        · exact Or.inl ⟨hin 81 66 (by omega), hin 38 6 (by omega)⟩
  · exact ⟨(0, G), (0, G), by rw [H_born k1, if_neg c], by show f_Model_born G p a b = _; rw [M_born (by omega) (by omega) (by omega), e0, e1, e7, if_neg c], rfl, hI'⟩
theorem H_acre {G : GS} {l s a b : Int} (h1 : gi G 9 5 ≤ 12) : f_Hall_acre G l s a b = some (if 0 ≤ l ∧ l < gi G 9 5 ∧ (0 ≤ s ∧ s ≤ 5) ∧ (0 ≤ a ∧ a ≤ 99) ∧ (0 ≤ b ∧ b ≤ 99) then (1, si (si G 13 (6 * l + s).toNat a) 14 (6 * l + s).toNat b) else (0, G)) := by
  have hw : 0 ≤ l → l < 12 → 0 ≤ s → s ≤ 5 → wr (l * 6 + s) = 6 * l + s := fun q1 q2 q3 q4 => by rw [wr_of (by omega) (by omega)]; omega
  grind (splits := 20) [f_Hall_acre, lHas_eq, gd, wG]
theorem M_acre {G : GS} {l s a b : Int} (h0 : 0 ≤ gi G 81 10) (h1 : gi G 81 10 ≤ 12) : f_Model_acre G l s a b = some (if 0 ≤ l ∧ l < gi G 81 10 ∧ (0 ≤ s ∧ s ≤ 5) ∧ (0 ≤ a ∧ a ≤ 99) ∧ (0 ≤ b ∧ b ≤ 99) then (1, si (si G 93 (6 * l + s).toNat a) 94 (6 * l + s).toNat b) else (0, G)) := by
  have hw : 0 ≤ l → l < 12 → 0 ≤ s → s ≤ 5 → wr (6 * l + s) = 6 * l + s := fun q1 q2 q3 q4 => by rw [wr_of (by omega) (by omega)]
  have hl := mLand_eq (G := G) l h0 h1
  grind (splits := 20) [f_Model_acre, isIn_eq, gd, wG]
theorem step_acre : Step_acre Inv := by
  intro G l s a b hl hs ha hb hI
  have hI' := hI
  obtain ⟨hE, hP, hL, hR, hS, hT, hM, hJ, hK⟩ := hI
  have e10 := hE.2 ((81, 10), (9, 5)) (by decide)
  simp only at e10
  have n0 := hP.1
  have n1 := hP.2.1
  have k0 := hP.2.2.1
  have k1 := hP.2.2.2.1
  have l0 := hL.1
  have l1 := hL.2.1
  by_cases c : 0 ≤ l ∧ l < gi G 9 5 ∧ (0 ≤ s ∧ s ≤ 5) ∧ (0 ≤ a ∧ a ≤ 99) ∧ (0 ≤ b ∧ b ≤ 99)
  · obtain ⟨n, hk⟩ : ∃ n : Nat, n = (6 * l + s).toNat := ⟨_, rfl⟩
    refine ⟨(1, si (si G 13 n a) 14 n b), (1, si (si (si (si G 13 n a) 14 n b) 93 n a) 94 n b), ?_, ?_, rfl, ?_⟩
    · rw [H_acre l1, if_pos c, hk]
    · rw [M_acre (by simp [gi_si]; omega) (by simp [gi_si]; omega)]
      simp [gi_si, e10, c, hk]
    · have hin : ∀ c k, ¬ ((c = 13 ∧ k = n) ∨ (c = 14 ∧ k = n) ∨ (c = 93 ∧ k = n) ∨ (c = 94 ∧ k = n)) → gi (si (si (si (si G 13 n a) 14 n b) 93 n a) 94 n b) c k = gi G c k := fun c k q => by
        simp only [not_or] at q
        simp only [gi_si]
        repeat rw [if_neg (by omega)]
      have hv0 : gi (si (si (si (si G 13 n a) 14 n b) 93 n a) 94 n b) 13 n = a := by simp [gi_si, ha, hb]
      have hv1 : gi (si (si (si (si G 13 n a) 14 n b) 93 n a) 94 n b) 14 n = b := by simp [gi_si, ha, hb]
      have hv2 : gi (si (si (si (si G 13 n a) 14 n b) 93 n a) 94 n b) 93 n = a := by simp [gi_si, ha, hb]
      have hv3 : gi (si (si (si (si G 13 n a) 14 n b) 93 n a) 94 n b) 94 n = b := by simp [gi_si, ha, hb]
      have hgp : ∀ c k, gp (si (si (si (si G 13 n a) 14 n b) 93 n a) 94 n b) c k = gp G c k := fun _ _ => rfl
      have u0_14 := hin 0 14 (by omega)
      have u1_7 := hin 1 7 (by omega)
      have u9_5 := hin 9 5 (by omega)
      show Inv (si (si (si (si G 13 n a) 14 n b) 93 n a) 94 n b)
      generalize si (si (si (si G 13 n a) 14 n b) 93 n a) 94 n b = G2 at *
      refine ⟨InvE_fr ?_ ?_ hE, InvP_fr (by omega) (by omega) (hin _ _ (by omega)) (fun c k h => hin _ _ (by omega)) hP, ⟨by omega, by omega, fun x hx => by
          have h0 := hL.2.2.1 x (by omega)
          unfold LOK at h0 ⊢
          have rr : ∀ c : Nat, c ≠ 13 → c ≠ 14 → c ≠ 93 → c ≠ 94 → ∀ k, gi G2 c k = gi G c k := fun c q1 q2 q3 q4 k => hin c k (by omega)
          simp only [rr 10 (by decide) (by decide) (by decide) (by decide), rr 11 (by decide) (by decide) (by decide) (by decide), rr 12 (by decide) (by decide) (by decide) (by decide), u1_7]
          exact h0, fun x => by
          have h0 := hL.2.2.2 x
          by_cases z : x = n
          · rw [z, hv0, hv1]; omega
          · rw [hin 13 x (by omega), hin 14 x (by omega)]; exact h0⟩, InvR_fr (hin _ _ (by omega)) (fun k => hin _ _ (by omega)) hR, InvS_fr (by omega) (by omega) (by omega) (hin _ _ (by omega)) (fun c k h => hin _ _ (by omega)) hS, InvT_fr (hin _ _ (by omega)) (fun c k h => hin _ _ (by omega)) hT, InvM_fr (hin _ _ (by omega)) (fun k => hin _ _ (by omega)) (fun c k h => hin _ _ (by omega)) hM, InvJ_fr (by omega) (fun k => hin _ _ (by omega)) (hin _ _ (by omega)) (hin _ _ (by omega)) (fun k => hin _ _ (by omega)) (Or.inl (hin _ _ (by omega))) (hin _ _ (by omega)) hJ, InvK_fr hgp (fun c k h => hin _ _ (by omega)) hK⟩
      · intro q hq k
        have := eqC_rng q hq
        by_cases z13 : k = n ∧ q.2 = 13
        · obtain ⟨rfl, z⟩ := z13
          right
          rw [z, show q.1 = 93 by omega, hv0, hv2]
        by_cases z14 : k = n ∧ q.2 = 14
        · obtain ⟨rfl, z⟩ := z14
          right
          rw [z, show q.1 = 94 by omega, hv1, hv3]
        left
        exact ⟨hin _ _ (by omega), hin _ _ (by omega)⟩
      · intro q hq
        simp only [eqS, List.mem_cons, List.not_mem_nil, or_false] at hq
        rcases hq with rfl | rfl | rfl | rfl | rfl | rfl | rfl | rfl
        · exact Or.inl ⟨hin 81 0 (by omega), hin 0 14 (by omega)⟩
        · exact Or.inl ⟨hin 81 1 (by omega), hin 1 7 (by omega)⟩
        · exact Or.inl ⟨hin 81 10 (by omega), hin 9 5 (by omega)⟩
        · exact Or.inl ⟨hin 81 16 (by omega), hin 0 12 (by omega)⟩
        · exact Or.inl ⟨hin 81 43 (by omega), hin 15 1 (by omega)⟩
        · exact Or.inl ⟨hin 81 50 (by omega), hin 15 8 (by omega)⟩
        · exact Or.inl ⟨hin 81 52 (by omega), hin 15 9 (by omega)⟩
        · exact Or.inl ⟨hin 81 66 (by omega), hin 38 6 (by omega)⟩
  · exact ⟨(0, G), (0, G), by rw [H_acre l1, if_neg c], by show f_Model_acre G l s a b = _; rw [M_acre (by omega) (by omega), e10, if_neg c], rfl, hI'⟩
theorem H_reign {G : GS} {a : Int} (h0 : 1 ≤ gi G 0 12) (h1 : gi G 0 12 ≤ 4) : f_Hall_reign G a = some (if gi G 0 12 < 4 ∧ gi G 74 (gi G 0 12 - 1).toNat < a ∧ a ≤ 29999 then (gi G 0 12, si (si G 74 (gi G 0 12).toNat a) 0 12 (gi G 0 12 + 1)) else (-1, G)) := by
  have hw : wr (gi G 0 12 - 1) = gi G 0 12 - 1 := wr_of (by omega) (by omega)
  have hw2 : wr (gi G 0 12 + 1) = gi G 0 12 + 1 := wr_of (by omega) (by omega)
  have hw3 : wr (gi G 0 12 + 1 - 1) = gi G 0 12 := by rw [Int.add_sub_cancel]; exact wr_gi _ _ _
  grind [f_Hall_reign, gi_si, gd, wG]
theorem M_reign {G : GS} {a : Int} (h0 : 1 ≤ gi G 81 16) (h1 : gi G 81 16 ≤ 4) (h2 : 0 ≤ gi G 95 (gi G 81 16 - 1).toNat) : f_Model_reign G a = some (if gi G 81 16 < 4 ∧ gi G 95 (gi G 81 16 - 1).toNat < a ∧ a ≤ 29999 then (gi G 81 16, si (si G 95 (gi G 81 16).toNat a) 81 16 (gi G 81 16 + 1)) else (-1, G)) := by
  have hw : wr (gi G 81 16 - 1) = gi G 81 16 - 1 := wr_of (by omega) (by omega)
  have hw2 : wr (gi G 81 16 + 1) = gi G 81 16 + 1 := wr_of (by omega) (by omega)
  have hw3 : wr (gi G 81 16 + 1 - 1) = gi G 81 16 := by rw [Int.add_sub_cancel]; exact wr_gi _ _ _
  grind [f_Model_reign, mDay_eq, gi_si, gd, wG]
theorem step_reign : Step_reign Inv := by
  intro G a ha hI
  have hI' := hI
  obtain ⟨hE, hP, hL, hR, hS, hT, hM, hJ, hK⟩ := hI
  have e16 := hE.2 ((81, 16), (0, 12)) (by decide)
  simp only at e16
  have n0 := hP.1
  have n1 := hP.2.1
  have k0 := hP.2.2.1
  have k1 := hP.2.2.2.1
  have r0 := hR.1
  have r1 := hR.2.1
  have eR := hE.1 (95, 74) (by decide) (gi G 0 12 - 1).toNat
  simp only at eR
  have rp := hR.2.2.2.1 (gi G 0 12 - 1).toNat
  have eQ : gi G 95 ((gi G 0 12).toNat - 1) = gi G 74 (gi G 0 12 - 1).toNat := by rw [← eR]; congr 1; omega
  have hz : (gi G 0 12 - 1).toNat = (gi G 0 12).toNat - 1 := by omega
  have rz : 0 ≤ gi G 74 ((gi G 0 12).toNat - 1) := by rw [← hz]; exact rp.1
  by_cases c : gi G 0 12 < 4 ∧ gi G 74 (gi G 0 12 - 1).toNat < a ∧ a ≤ 29999
  · obtain ⟨n, hn⟩ : ∃ n : Nat, n = (gi G 0 12).toNat := ⟨_, rfl⟩
    obtain ⟨v, hv⟩ : ∃ v : Int, v = gi G 0 12 + 1 := ⟨_, rfl⟩
    have hw : wr v = v := wr_of (by omega) (by omega)
    have cz : gi G 74 ((gi G 0 12).toNat - 1) < a := by rw [← hz]; exact c.2.1
    refine ⟨(gi G 0 12, si (si G 74 n a) 0 12 v), (gi G 0 12, si (si (si (si G 74 n a) 0 12 v) 95 n a) 81 16 v), ?_, ?_, rfl, ?_⟩
    · rw [H_reign r0 r1, if_pos c, hn, hv]
    · rw [M_reign (by simp [gi_si]; omega) (by simp [gi_si]; omega) (by simp [gi_si, e16, eQ]; omega)]
      simp [gi_si, e16, eQ, c, hn, hv, Int.not_le.mpr cz]
    · have hin : ∀ c k, ¬ ((c = 74 ∧ k = n) ∨ (c = 0 ∧ k = 12) ∨ (c = 95 ∧ k = n) ∨ (c = 81 ∧ k = 16)) → gi (si (si (si (si G 74 n a) 0 12 v) 95 n a) 81 16 v) c k = gi G c k := fun c k q => by
        simp only [not_or] at q
        simp only [gi_si]
        repeat rw [if_neg (by omega)]
      have hv0 : gi (si (si (si (si G 74 n a) 0 12 v) 95 n a) 81 16 v) 74 n = a := by simp [gi_si, ha, hw]
      have hv1 : gi (si (si (si (si G 74 n a) 0 12 v) 95 n a) 81 16 v) 0 12 = v := by simp [gi_si, ha, hw]
      have hv2 : gi (si (si (si (si G 74 n a) 0 12 v) 95 n a) 81 16 v) 95 n = a := by simp [gi_si, ha, hw]
      have hv3 : gi (si (si (si (si G 74 n a) 0 12 v) 95 n a) 81 16 v) 81 16 = v := by simp [gi_si, ha, hw]
      have hgp : ∀ c k, gp (si (si (si (si G 74 n a) 0 12 v) 95 n a) 81 16 v) c k = gp G c k := fun _ _ => rfl
      have u0_14 := hin 0 14 (by omega)
      have u1_7 := hin 1 7 (by omega)
      have u9_5 := hin 9 5 (by omega)
      show Inv (si (si (si (si G 74 n a) 0 12 v) 95 n a) 81 16 v)
      generalize si (si (si (si G 74 n a) 0 12 v) 95 n a) 81 16 v = G2 at *
      refine ⟨InvE_fr ?_ ?_ hE, InvP_fr (by omega) (by omega) (hin _ _ (by omega)) (fun c k h => hin _ _ (by omega)) hP, InvL_fr (by omega) (hin _ _ (by omega)) (fun c k h => hin _ _ (by omega)) hL, ⟨by omega, by omega, by rw [hin 74 0 (by omega)]; exact hR.2.2.1, fun r => by
          by_cases z : r = n
          · rw [z, hv0]; omega
          · rw [hin 74 r (by omega)]; exact hR.2.2.2.1 r, fun r hr => by
          by_cases z : r + 1 = n
          · rw [z, hv0, hin 74 r (by omega), show r = (gi G 0 12 - 1).toNat by omega]; omega
          · rw [hin 74 r (by omega), hin 74 (r + 1) (by omega)]; exact hR.2.2.2.2 r (by omega)⟩, InvS_fr (by omega) (by omega) (by omega) (hin _ _ (by omega)) (fun c k h => hin _ _ (by omega)) hS, InvT_fr (hin _ _ (by omega)) (fun c k h => hin _ _ (by omega)) hT, InvM_fr (hin _ _ (by omega)) (fun k => hin _ _ (by omega)) (fun c k h => hin _ _ (by omega)) hM, InvJ_fr (by omega) (fun k => hin _ _ (by omega)) (hin _ _ (by omega)) (hin _ _ (by omega)) (fun k => hin _ _ (by omega)) (Or.inl (hin _ _ (by omega))) (hin _ _ (by omega)) hJ, InvK_fr hgp (fun c k h => hin _ _ (by omega)) hK⟩
      · intro q hq k
        have := eqC_rng q hq
        by_cases z74 : k = n ∧ q.2 = 74
        · obtain ⟨rfl, z⟩ := z74
          right
          rw [z, show q.1 = 95 by omega, hv0, hv2]
        left
        exact ⟨hin _ _ (by omega), hin _ _ (by omega)⟩
      · intro q hq
        simp only [eqS, List.mem_cons, List.not_mem_nil, or_false] at hq
        rcases hq with rfl | rfl | rfl | rfl | rfl | rfl | rfl | rfl
        · exact Or.inl ⟨hin 81 0 (by omega), hin 0 14 (by omega)⟩
        · exact Or.inl ⟨hin 81 1 (by omega), hin 1 7 (by omega)⟩
        · exact Or.inl ⟨hin 81 10 (by omega), hin 9 5 (by omega)⟩
        · exact Or.inr (hv3.trans hv1.symm)
        · exact Or.inl ⟨hin 81 43 (by omega), hin 15 1 (by omega)⟩
        · exact Or.inl ⟨hin 81 50 (by omega), hin 15 8 (by omega)⟩
        · exact Or.inl ⟨hin 81 52 (by omega), hin 15 9 (by omega)⟩
        · exact Or.inl ⟨hin 81 66 (by omega), hin 38 6 (by omega)⟩
  · exact ⟨(-1, G), (-1, G), by rw [H_reign r0 r1, if_neg c], by show f_Model_reign G a = _; rw [M_reign (by omega) (by omega) (by rw [e16, eR]; omega), e16, eR, if_neg c], rfl, hI'⟩
