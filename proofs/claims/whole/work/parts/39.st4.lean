/-! steps that write a few cells, more (printed by wip/whole/steps3.py) -/
theorem H_end {G : GS} {a : Int} : f_Hall_end G a = some (if 0 ≤ a ∧ a ≤ gi G 15 1 then (1, si G 15 1 a) else (0, G)) := by
  grind [f_Hall_end, wG]
theorem M_end {G : GS} {a : Int} : f_Model_end G a = some (if 0 ≤ a ∧ a ≤ gi G 81 43 then (1, si G 81 43 a) else (0, G)) := by
  grind [f_Model_end, isIn_eq, wG]
theorem step_end : Step_end Inv := by
  intro G a ha hI
  have hI' := hI
  obtain ⟨hE, hP, hL, hR, hS, hT, hM, hJ, hK⟩ := hI
  have e43 := hE.2 ((81, 43), (15, 1)) (by decide)
  simp only at e43
  have n0 := hP.1
  have n1 := hP.2.1
  have k0 := hP.2.2.1
  have k1 := hP.2.2.2.1
  have t0 := hT.1
  have t1 := hT.2.1
  by_cases c : 0 ≤ a ∧ a ≤ gi G 15 1
  · refine ⟨(1, si G 15 1 a), (1, si (si G 15 1 a) 81 43 a), ?_, ?_, rfl, ?_⟩
    · rw [H_end, if_pos c]
    · rw [M_end]
      simp [gi_si, e43, c]
    · have hin : ∀ c k, ¬ ((c = 15 ∧ k = 1) ∨ (c = 81 ∧ k = 43)) → gi (si (si G 15 1 a) 81 43 a) c k = gi G c k := fun c k q => by
        simp only [not_or] at q
        simp only [gi_si]
        repeat rw [if_neg (by omega)]
      have hv0 : gi (si (si G 15 1 a) 81 43 a) 15 1 = a := by simp [gi_si, ha]
      have hv1 : gi (si (si G 15 1 a) 81 43 a) 81 43 = a := by simp [gi_si, ha]
      have hgp : ∀ c k, gp (si (si G 15 1 a) 81 43 a) c k = gp G c k := fun _ _ => rfl
      have u0_14 := hin 0 14 (by omega)
      have u1_7 := hin 1 7 (by omega)
      have u9_5 := hin 9 5 (by omega)
      show Inv (si (si G 15 1 a) 81 43 a)
      generalize si (si G 15 1 a) 81 43 a = G2 at *
      refine ⟨InvE_fr ?_ ?_ hE, InvP_fr (by omega) (by omega) (hin _ _ (by omega)) (fun c k h => hin _ _ (by omega)) hP, InvL_fr (by omega) (hin _ _ (by omega)) (fun c k h => hin _ _ (by omega)) hL, InvR_fr (hin _ _ (by omega)) (fun k => hin _ _ (by omega)) hR, InvS_fr (by omega) (by omega) (by omega) (hin _ _ (by omega)) (fun c k h => hin _ _ (by omega)) hS, ⟨by omega, by omega, fun k => by rw [hin 16 k (by omega), hin 117 k (by omega)]; exact hT.2.2.1 k, fun i hi => by rw [hin 17 i (by omega)]; exact hT.2.2.2 i hi⟩, InvM_fr (hin _ _ (by omega)) (fun k => hin _ _ (by omega)) (fun c k h => hin _ _ (by omega)) hM, InvJ_fr (by omega) (fun k => hin _ _ (by omega)) (hin _ _ (by omega)) (hin _ _ (by omega)) (fun k => hin _ _ (by omega)) (Or.inl (hin _ _ (by omega))) (hin _ _ (by omega)) hJ, InvK_fr hgp (fun c k h => hin _ _ (by omega)) hK⟩
      · intro q hq k
        have := eqC_rng q hq
        left
        exact ⟨hin _ _ (by omega), hin _ _ (by omega)⟩
      · intro q hq
        simp only [eqS, List.mem_cons, List.not_mem_nil, or_false] at hq
        rcases hq with rfl | rfl | rfl | rfl | rfl | rfl | rfl | rfl
        · exact Or.inl ⟨hin 81 0 (by omega), hin 0 14 (by omega)⟩
        · exact Or.inl ⟨hin 81 1 (by omega), hin 1 7 (by omega)⟩
        · exact Or.inl ⟨hin 81 10 (by omega), hin 9 5 (by omega)⟩
        · exact Or.inl ⟨hin 81 16 (by omega), hin 0 12 (by omega)⟩
        · exact Or.inr (hv1.trans hv0.symm)
        · exact Or.inl ⟨hin 81 50 (by omega), hin 15 8 (by omega)⟩
        · exact Or.inl ⟨hin 81 52 (by omega), hin 15 9 (by omega)⟩
        · exact Or.inl ⟨hin 81 66 (by omega), hin 38 6 (by omega)⟩
  · exact ⟨(0, G), (0, G), by rw [H_end, if_neg c], by show f_Model_end G a = _; rw [M_end, e43, if_neg c], rfl, hI'⟩
theorem H_event {G : GS} {e d : Int} : f_Hall_event G e d = some (if (0 ≤ e ∧ e ≤ 15) ∧ (0 ≤ d ∧ d ≤ 29999) then (1, si G 24 e.toNat d) else (0, G)) := by
  grind [f_Hall_event, hDay_eq, gd, wG]
theorem M_event {G : GS} {e d : Int} : f_Model_event G e d = some (if (0 ≤ e ∧ e ≤ 15) ∧ (0 ≤ d ∧ d ≤ 29999) then (1, si G 130 e.toNat d) else (0, G)) := by
  grind [f_Model_event, isIn_eq, mDay_eq, gd, wG]
theorem step_event : Step_event Inv := by
  intro G e d he hd hI
  have hI' := hI
  obtain ⟨hE, hP, hL, hR, hS, hT, hM, hJ, hK⟩ := hI
  have n0 := hP.1
  have n1 := hP.2.1
  have k0 := hP.2.2.1
  have k1 := hP.2.2.2.1
  by_cases c : (0 ≤ e ∧ e ≤ 15) ∧ (0 ≤ d ∧ d ≤ 29999)
  · refine ⟨(1, si G 24 e.toNat d), (1, si (si G 24 e.toNat d) 130 e.toNat d), ?_, ?_, rfl, ?_⟩
    · rw [H_event, if_pos c]
    · rw [M_event, if_pos c]
    · have hin : ∀ c k, ¬ ((c = 24 ∧ k = e.toNat) ∨ (c = 130 ∧ k = e.toNat)) → gi (si (si G 24 e.toNat d) 130 e.toNat d) c k = gi G c k := fun c k q => by
        simp only [not_or] at q
        simp only [gi_si]
        repeat rw [if_neg (by omega)]
      have hv0 : gi (si (si G 24 e.toNat d) 130 e.toNat d) 24 e.toNat = d := by simp [gi_si, hd]
      have hv1 : gi (si (si G 24 e.toNat d) 130 e.toNat d) 130 e.toNat = d := by simp [gi_si, hd]
      have hgp : ∀ c k, gp (si (si G 24 e.toNat d) 130 e.toNat d) c k = gp G c k := fun _ _ => rfl
      have u0_14 := hin 0 14 (by omega)
      have u1_7 := hin 1 7 (by omega)
      have u9_5 := hin 9 5 (by omega)
      show Inv (si (si G 24 e.toNat d) 130 e.toNat d)
      generalize si (si G 24 e.toNat d) 130 e.toNat d = G2 at *
      refine ⟨InvE_fr ?_ ?_ hE, InvP_fr (by omega) (by omega) (hin _ _ (by omega)) (fun c k h => hin _ _ (by omega)) hP, InvL_fr (by omega) (hin _ _ (by omega)) (fun c k h => hin _ _ (by omega)) hL, InvR_fr (hin _ _ (by omega)) (fun k => hin _ _ (by omega)) hR, InvS_fr (by omega) (by omega) (by omega) (hin _ _ (by omega)) (fun c k h => hin _ _ (by omega)) hS, InvT_fr (hin _ _ (by omega)) (fun c k h => hin _ _ (by omega)) hT, ⟨fun x => by
          by_cases z : x = e.toNat
          · rw [z, hv0]; omega
          · rw [hin 24 x (by omega)]; exact hM.1 x, fun p m hp hm => by
          have h0 := hM.2 p m (by omega) (by rw [← hin 25 p (by omega)]; exact hm)
          unfold MOKe at h0 ⊢
          have rr : ∀ c : Nat, c ≠ 24 → c ≠ 130 → ∀ k, gi G2 c k = gi G c k := fun c q1 q2 k => hin c k (by omega)
          have h24 : gi G2 24 (gi G 26 (24 * p + m)).toNat ≠ -1 := by
            by_cases z : (gi G 26 (24 * p + m)).toNat = e.toNat
            · rw [z, hv0]; omega
            · rw [hin 24 _ (by omega)]; exact h0.2.2.2.1
          simp only [rr 26 (by decide) (by decide), rr 27 (by decide) (by decide), rr 28 (by decide) (by decide), rr 131 (by decide) (by decide), rr 132 (by decide) (by decide), rr 133 (by decide) (by decide), rr 134 (by decide) (by decide)]
          exact ⟨h0.1, h0.2.1, h0.2.2.1, h24, h0.2.2.2.2⟩⟩, InvJ_fr (by omega) (fun k => hin _ _ (by omega)) (hin _ _ (by omega)) (hin _ _ (by omega)) (fun k => hin _ _ (by omega)) (Or.inl (hin _ _ (by omega))) (hin _ _ (by omega)) hJ, InvK_fr hgp (fun c k h => hin _ _ (by omega)) hK⟩
      · intro q hq k
        have := eqC_rng q hq
        by_cases z24 : k = e.toNat ∧ q.2 = 24
        · obtain ⟨rfl, z⟩ := z24
          right
          rw [z, show q.1 = 130 by omega, hv0, hv1]
        left
        exact ⟨hin _ _ (by omega), hin _ _ (by omega)⟩
      · intro q hq
        simp only [eqS, List.mem_cons, List.not_mem_nil, or_false] at hq
        rcases hq with rfl | rfl | rfl | rfl | rfl | rfl | rfl | rfl
        · exact Or.inl ⟨hin 81 0 (by omega), hin 0 14 (by omega)⟩
        · exact Or.inl ⟨hin 81 1 (by omega), hin 1 7 (by omega)⟩
        · exact Or.inl ⟨hin 81 10 (by omega), hin 9 5 (by omega)⟩
        · exact Or.inl ⟨hin 81 16 (by omega), hin 0 12 (by omega)⟩
        · exact Or.inl ⟨hin 81 43 (by omega), hin 15 1 (by omega)⟩
        · exact Or.inl ⟨hin 81 50 (by omega), hin 15 8 (by omega)⟩
        · exact Or.inl ⟨hin 81 52 (by omega), hin 15 9 (by omega)⟩
        · exact Or.inl ⟨hin 81 66 (by omega), hin 38 6 (by omega)⟩
  · exact ⟨(0, G), (0, G), by rw [H_event, if_neg c], by show f_Model_event G e d = _; rw [M_event, if_neg c], rfl, hI'⟩
theorem H_forget {G : GS} {p : Int} (h1 : gi G 1 7 ≤ 32) : f_Hall_forget G p = some (if 0 ≤ p ∧ p < gi G 1 7 then (1, si G 25 p.toNat 0) else (0, G)) := by
  grind [f_Hall_forget, has_eq, gd, wG]
theorem M_forget {G : GS} {p : Int} (h0 : 0 ≤ gi G 81 1) (h1 : gi G 81 1 ≤ 32) : f_Model_forget G p = some (if 0 ≤ p ∧ p < gi G 81 1 then (1, si G 89 p.toNat 0) else (0, G)) := by
  grind [f_Model_forget, isPerson_eq, gd, wG]
theorem step_forget : Step_forget Inv := by
  intro G p hp hI
  have hI' := hI
  obtain ⟨hE, hP, hL, hR, hS, hT, hM, hJ, hK⟩ := hI
  have e1 := hE.2 ((81, 1), (1, 7)) (by decide)
  simp only at e1
  have n0 := hP.1
  have n1 := hP.2.1
  have k0 := hP.2.2.1
  have k1 := hP.2.2.2.1
  have w0 : wr 0 = 0 := wr_of (by omega) (by omega)
  by_cases c : 0 ≤ p ∧ p < gi G 1 7
  · refine ⟨(1, si G 25 p.toNat 0), (1, si (si G 25 p.toNat 0) 89 p.toNat 0), ?_, ?_, rfl, ?_⟩
    · rw [H_forget k1, if_pos c]
    · rw [M_forget (by simp [gi_si]; omega) (by simp [gi_si]; omega)]
      simp [gi_si, e1, c]
    · have hin : ∀ c k, ¬ ((c = 25 ∧ k = p.toNat) ∨ (c = 89 ∧ k = p.toNat)) → gi (si (si G 25 p.toNat 0) 89 p.toNat 0) c k = gi G c k := fun c k q => by
        simp only [not_or] at q
        simp only [gi_si]
        repeat rw [if_neg (by omega)]
      have hv0 : gi (si (si G 25 p.toNat 0) 89 p.toNat 0) 25 p.toNat = 0 := by simp [gi_si, w0]
      have hv1 : gi (si (si G 25 p.toNat 0) 89 p.toNat 0) 89 p.toNat = 0 := by simp [gi_si, w0]
      have hgp : ∀ c k, gp (si (si G 25 p.toNat 0) 89 p.toNat 0) c k = gp G c k := fun _ _ => rfl
      have u0_14 := hin 0 14 (by omega)
      have u1_7 := hin 1 7 (by omega)
      have u9_5 := hin 9 5 (by omega)
      show Inv (si (si G 25 p.toNat 0) 89 p.toNat 0)
      generalize si (si G 25 p.toNat 0) 89 p.toNat 0 = G2 at *
      refine ⟨InvE_fr ?_ ?_ hE, ⟨by omega, by omega, by omega, by omega, fun x hx => by
        have h0 := hP.2.2.2.2.1 x (by omega)
        unfold POK at h0 ⊢
        have hx25 : gi G2 25 x = if x = p.toNat then 0 else gi G 25 x := by
          by_cases z : x = p.toNat
          · rw [if_pos z, z, hv0]
          · rw [if_neg z]; exact hin _ _ (by omega)
        have rr : ∀ c : Nat, c ≠ 25 → c ≠ 89 → ∀ k, gi G2 c k = gi G c k := fun c q0 q1 k => hin c k (by omega)
        simp only [rr 2 (by decide) (by decide), rr 3 (by decide) (by decide), rr 4 (by decide) (by decide), rr 5 (by decide) (by decide), rr 6 (by decide) (by decide), rr 7 (by decide) (by decide), rr 8 (by decide) (by decide), u0_14, u1_7, hx25]
        refine ⟨h0.1, h0.2.1, h0.2.2.1, h0.2.2.2.1, h0.2.2.2.2.1, h0.2.2.2.2.2.1, ?_⟩
        by_cases z : x = p.toNat
        · rw [if_pos z]; omega
        · rw [if_neg z]; exact h0.2.2.2.2.2.2, fun x hx => by
        by_cases z : x = p.toNat
        · rw [z, hv0]
        · rw [hin 25 _ (by omega)]; exact hP.2.2.2.2.2 x (by omega)⟩, InvL_fr (by omega) (hin _ _ (by omega)) (fun c k h => hin _ _ (by omega)) hL, InvR_fr (hin _ _ (by omega)) (fun k => hin _ _ (by omega)) hR, InvS_fr (by omega) (by omega) (by omega) (hin _ _ (by omega)) (fun c k h => hin _ _ (by omega)) hS, InvT_fr (hin _ _ (by omega)) (fun c k h => hin _ _ (by omega)) hT, ⟨fun x => by rw [hin 24 x (by omega)]; exact hM.1 x, fun x m hp hm => by
          have hz : x ≠ p.toNat := fun z => by rw [z, hv0] at hm; omega
          have h0 := hM.2 x m (by omega) (by rw [← hin 25 x (by omega)]; exact hm)
          unfold MOKe at h0 ⊢
          have rr : ∀ c : Nat, c ≠ 25 → c ≠ 89 → ∀ k, gi G2 c k = gi G c k := fun c q1 q2 k => hin c k (by omega)
          simp only [rr 24 (by decide) (by decide), rr 26 (by decide) (by decide), rr 27 (by decide) (by decide), rr 28 (by decide) (by decide), rr 131 (by decide) (by decide), rr 132 (by decide) (by decide), rr 133 (by decide) (by decide), rr 134 (by decide) (by decide)]
          exact h0⟩, InvJ_fr (by omega) (fun k => hin _ _ (by omega)) (hin _ _ (by omega)) (hin _ _ (by omega)) (fun k => hin _ _ (by omega)) (Or.inl (hin _ _ (by omega))) (hin _ _ (by omega)) hJ, InvK_fr hgp (fun c k h => hin _ _ (by omega)) hK⟩
      · intro q hq k
        have := eqC_rng q hq
        by_cases z25 : k = p.toNat ∧ q.2 = 25
        · obtain ⟨rfl, z⟩ := z25
          right
          rw [z, show q.1 = 89 by omega, hv0, hv1]
        left
        exact ⟨hin _ _ (by omega), hin _ _ (by omega)⟩
      · intro q hq
        simp only [eqS, List.mem_cons, List.not_mem_nil, or_false] at hq
        rcases hq with rfl | rfl | rfl | rfl | rfl | rfl | rfl | rfl
        · exact Or.inl ⟨hin 81 0 (by omega), hin 0 14 (by omega)⟩
        · exact Or.inl ⟨hin 81 1 (by omega), hin 1 7 (by omega)⟩
        · exact Or.inl ⟨hin 81 10 (by omega), hin 9 5 (by omega)⟩
        · exact Or.inl ⟨hin 81 16 (by omega), hin 0 12 (by omega)⟩
        · exact Or.inl ⟨hin 81 43 (by omega), hin 15 1 (by omega)⟩
        · exact Or.inl ⟨hin 81 50 (by omega), hin 15 8 (by omega)⟩
        · exact Or.inl ⟨hin 81 52 (by omega), hin 15 9 (by omega)⟩
        · exact Or.inl ⟨hin 81 66 (by omega), hin 38 6 (by omega)⟩
  · exact ⟨(0, G), (0, G), by rw [H_forget k1, if_neg c], by show f_Model_forget G p = _; rw [M_forget (by omega) (by omega), e1, if_neg c], rfl, hI'⟩
theorem jHas_eq (G : GS) (j : Int) : f_Juries_has G j = some (if 0 ≤ j ∧ j ≤ 9 then 1 else 0) := by
  grind [f_Juries_has]
theorem mJury_eq (G : GS) (j : Int) : f_Model_isJury G j = some (if 0 ≤ j ∧ j ≤ 9 then 1 else 0) := by
  grind [f_Model_isJury, isIn_eq]
theorem say_eq (G : GS) {j l v : Int} (h0 : 0 ≤ j ∧ j ≤ 9) (h1 : 0 ≤ l ∧ l < 12) : f_Juries_say G j l v = some (si (si G 46 (12 * j + l).toNat v) 45 4 0) := by
  have hw : wr (j * 12 + l) = 12 * j + l := by rw [wr_of (by omega) (by omega)]; omega
  grind [f_Juries_say, gd, wG]
theorem said_eq (G : GS) {j l : Int} (h0 : 0 ≤ j ∧ j ≤ 9) (h1 : 0 ≤ l ∧ l < 12) : f_Juries_hasSaid G j l = some (if gi G 46 (12 * j + l).toNat = -2 then 0 else 1) := by
  have hw : wr (j * 12 + l) = 12 * j + l := by rw [wr_of (by omega) (by omega)]; omega
  grind [f_Juries_hasSaid, gd]
theorem H_find {G : GS} {j l a : Int} (h1 : gi G 9 5 ≤ 12) : f_Hall_find G j l a = some (if (0 ≤ j ∧ j ≤ 9) ∧ (0 ≤ l ∧ l < gi G 9 5) ∧ a ≠ l ∧ (a = -1 ∨ (0 ≤ a ∧ a < gi G 9 5)) then (1, si (si G 46 (12 * j + l).toNat a) 45 4 0) else (0, G)) := by
  by_cases c : (0 ≤ j ∧ j ≤ 9) ∧ (0 ≤ l ∧ l < gi G 9 5)
  · have hs := say_eq G (v := a) c.1 (l := l) ⟨c.2.1, by omega⟩
    grind (splits := 20) [f_Hall_find, f_Hall_find_L41, jHas_eq, lHas_eq]
  · grind (splits := 20) [f_Hall_find, jHas_eq, lHas_eq]
theorem M_find {G : GS} {j l a : Int} (h0 : 0 ≤ gi G 81 10) (h1 : gi G 81 10 ≤ 12) : f_Model_find G j l a = some (if (0 ≤ j ∧ j ≤ 9) ∧ (0 ≤ l ∧ l < gi G 81 10) ∧ a ≠ l ∧ (a = -1 ∨ (0 ≤ a ∧ a < gi G 81 10)) then (1, si (si G 135 (12 * j + l).toNat a) 81 85 0) else (0, G)) := by
  have hl := mLand_eq (G := G) l h0 h1
  have ha := mLand_eq (G := G) a h0 h1
  have hw : (0 ≤ j ∧ j ≤ 9) → (0 ≤ l ∧ l < 12) → wr (12 * j + l) = 12 * j + l := fun q1 q2 => wr_of (by omega) (by omega)
  grind (splits := 20) [f_Model_find, f_Model_find_L28, mJury_eq, gd, wG]
theorem H_unsay {G : GS} {j l : Int} (h1 : gi G 9 5 ≤ 12) : f_Hall_unsay G j l = some (if (0 ≤ j ∧ j ≤ 9) ∧ (0 ≤ l ∧ l < gi G 9 5) ∧ gi G 46 (12 * j + l).toNat ≠ -2 then (1, si (si G 46 (12 * j + l).toNat (-2)) 45 4 0) else (0, G)) := by
  by_cases c : (0 ≤ j ∧ j ≤ 9) ∧ (0 ≤ l ∧ l < gi G 9 5)
  · have hs := say_eq G (v := -2) c.1 (l := l) ⟨c.2.1, by omega⟩
    have ht := said_eq G c.1 (l := l) ⟨c.2.1, by omega⟩
    grind (splits := 20) [f_Hall_unsay, jHas_eq, lHas_eq]
  · grind (splits := 20) [f_Hall_unsay, jHas_eq, lHas_eq]
theorem M_unsay {G : GS} {j l : Int} (h0 : 0 ≤ gi G 81 10) (h1 : gi G 81 10 ≤ 12) : f_Model_unsay G j l = some (if (0 ≤ j ∧ j ≤ 9) ∧ (0 ≤ l ∧ l < gi G 81 10) ∧ gi G 135 (12 * j + l).toNat ≠ -2 then (1, si (si G 135 (12 * j + l).toNat (-2)) 81 85 0) else (0, G)) := by
  have hl := mLand_eq (G := G) l h0 h1
  have hw : (0 ≤ j ∧ j ≤ 9) → (0 ≤ l ∧ l < 12) → wr (12 * j + l) = 12 * j + l := fun q1 q2 => wr_of (by omega) (by omega)
  grind (splits := 20) [f_Model_unsay, mJury_eq, gd, wG]
theorem step_find : Step_find Inv := by
  intro G j l a hj hl ha hI
  have hI' := hI
  obtain ⟨hE, hP, hL, hR, hS, hT, hM, hJ, hK⟩ := hI
  have e10 := hE.2 ((81, 10), (9, 5)) (by decide)
  simp only at e10
  have n0 := hP.1
  have n1 := hP.2.1
  have k0 := hP.2.2.1
  have k1 := hP.2.2.2.1
  have l0 := hL.1
  have l1 := hL.2.1
  have w0 : wr 0 = 0 := wr_of (by omega) (by omega)
  by_cases c : (0 ≤ j ∧ j ≤ 9) ∧ (0 ≤ l ∧ l < gi G 9 5) ∧ a ≠ l ∧ (a = -1 ∨ (0 ≤ a ∧ a < gi G 9 5))
  · obtain ⟨n, hn⟩ : ∃ n : Nat, n = (12 * j + l).toNat := ⟨_, rfl⟩
    refine ⟨(1, si (si G 46 n a) 45 4 0), (1, si (si (si (si G 46 n a) 45 4 0) 135 n a) 81 85 0), ?_, ?_, rfl, ?_⟩
    · rw [H_find l1, if_pos c, hn]
    · rw [M_find (by simp [gi_si]; omega) (by simp [gi_si]; omega)]
      simp [gi_si, e10, c, hn]
    · have hin : ∀ c k, ¬ ((c = 46 ∧ k = n) ∨ (c = 45 ∧ k = 4) ∨ (c = 135 ∧ k = n) ∨ (c = 81 ∧ k = 85)) → gi (si (si (si (si G 46 n a) 45 4 0) 135 n a) 81 85 0) c k = gi G c k := fun c k q => by
        simp only [not_or] at q
        simp only [gi_si]
        repeat rw [if_neg (by omega)]
      have hv0 : gi (si (si (si (si G 46 n a) 45 4 0) 135 n a) 81 85 0) 46 n = a := by simp [gi_si, ha, w0]
      have hv1 : gi (si (si (si (si G 46 n a) 45 4 0) 135 n a) 81 85 0) 45 4 = 0 := by simp [gi_si, ha, w0]
      have hv2 : gi (si (si (si (si G 46 n a) 45 4 0) 135 n a) 81 85 0) 135 n = a := by simp [gi_si, ha, w0]
      have hv3 : gi (si (si (si (si G 46 n a) 45 4 0) 135 n a) 81 85 0) 81 85 = 0 := by simp [gi_si, ha, w0]
      have hgp : ∀ c k, gp (si (si (si (si G 46 n a) 45 4 0) 135 n a) 81 85 0) c k = gp G c k := fun _ _ => rfl
      have u0_14 := hin 0 14 (by omega)
      have u1_7 := hin 1 7 (by omega)
      have u9_5 := hin 9 5 (by omega)
      show Inv (si (si (si (si G 46 n a) 45 4 0) 135 n a) 81 85 0)
      generalize si (si (si (si G 46 n a) 45 4 0) 135 n a) 81 85 0 = G2 at *
      refine ⟨InvE_fr ?_ ?_ hE, InvP_fr (by omega) (by omega) (hin _ _ (by omega)) (fun c k h => hin _ _ (by omega)) hP, InvL_fr (by omega) (hin _ _ (by omega)) (fun c k h => hin _ _ (by omega)) hL, InvR_fr (hin _ _ (by omega)) (fun k => hin _ _ (by omega)) hR, InvS_fr (by omega) (by omega) (by omega) (hin _ _ (by omega)) (fun c k h => hin _ _ (by omega)) hS, InvT_fr (hin _ _ (by omega)) (fun c k h => hin _ _ (by omega)) hT, InvM_fr (hin _ _ (by omega)) (fun k => hin _ _ (by omega)) (fun c k h => hin _ _ (by omega)) hM, ⟨fun j' l' hj' hl' => by
          have h0 := hJ.1 j' l' hj' hl'
          by_cases z : 12 * j' + l' = n
          · rw [z, hv0, u9_5]; omega
          · rw [hin 46 _ (by omega), u9_5]; exact h0, by omega, by omega, fun q => by omega, fun q => by omega⟩, InvK_fr hgp (fun c k h => hin _ _ (by omega)) hK⟩
      · intro q hq k
        have := eqC_rng q hq
        by_cases z46 : k = n ∧ q.2 = 46
        · obtain ⟨rfl, z⟩ := z46
          right
          rw [z, show q.1 = 135 by omega, hv0, hv2]
        left
        exact ⟨hin _ _ (by omega), hin _ _ (by omega)⟩
      · intro q hq
        simp only [eqS, List.mem_cons, List.not_mem_nil, or_false] at hq
        rcases hq with rfl | rfl | rfl | rfl | rfl | rfl | rfl | rfl
        · exact Or.inl ⟨hin 81 0 (by omega), hin 0 14 (by omega)⟩
        · exact Or.inl ⟨hin 81 1 (by omega), hin 1 7 (by omega)⟩
        · exact Or.inl ⟨hin 81 10 (by omega), hin 9 5 (by omega)⟩
        · exact Or.inl ⟨hin 81 16 (by omega), hin 0 12 (by omega)⟩
        · exact Or.inl ⟨hin 81 43 (by omega), hin 15 1 (by omega)⟩
        · exact Or.inl ⟨hin 81 50 (by omega), hin 15 8 (by omega)⟩
        · exact Or.inl ⟨hin 81 52 (by omega), hin 15 9 (by omega)⟩
        · exact Or.inl ⟨hin 81 66 (by omega), hin 38 6 (by omega)⟩
  · exact ⟨(0, G), (0, G), by rw [H_find l1, if_neg c], by show f_Model_find G j l a = _; rw [M_find (by omega) (by omega), e10, if_neg c], rfl, hI'⟩
theorem step_unsay : Step_unsay Inv := by
  intro G j l hj hl hI
  have hI' := hI
  obtain ⟨hE, hP, hL, hR, hS, hT, hM, hJ, hK⟩ := hI
  have e10 := hE.2 ((81, 10), (9, 5)) (by decide)
  simp only at e10
  have n0 := hP.1
  have n1 := hP.2.1
  have k0 := hP.2.2.1
  have k1 := hP.2.2.2.1
  have eU := hE.1 (135, 46) (by decide) (12 * j + l).toNat
  simp only at eU
  have w2 : wr (-2) = -2 := wr_of (by omega) (by omega)
  have l0 := hL.1
  have l1 := hL.2.1
  have w0 : wr 0 = 0 := wr_of (by omega) (by omega)
  by_cases c : (0 ≤ j ∧ j ≤ 9) ∧ (0 ≤ l ∧ l < gi G 9 5) ∧ gi G 46 (12 * j + l).toNat ≠ -2
  · obtain ⟨n, hn⟩ : ∃ n : Nat, n = (12 * j + l).toNat := ⟨_, rfl⟩
    refine ⟨(1, si (si G 46 n (-2)) 45 4 0), (1, si (si (si (si G 46 n (-2)) 45 4 0) 135 n (-2)) 81 85 0), ?_, ?_, rfl, ?_⟩
    · rw [H_unsay l1, if_pos c, hn]
    · rw [M_unsay (by simp [gi_si]; omega) (by simp [gi_si]; omega)]
      simp [gi_si, e10, eU, c, hn]
    · have hin : ∀ c k, ¬ ((c = 46 ∧ k = n) ∨ (c = 45 ∧ k = 4) ∨ (c = 135 ∧ k = n) ∨ (c = 81 ∧ k = 85)) → gi (si (si (si (si G 46 n (-2)) 45 4 0) 135 n (-2)) 81 85 0) c k = gi G c k := fun c k q => by
        simp only [not_or] at q
        simp only [gi_si]
        repeat rw [if_neg (by omega)]
      have hv0 : gi (si (si (si (si G 46 n (-2)) 45 4 0) 135 n (-2)) 81 85 0) 46 n = -2 := by simp [gi_si, w2, w0]
      have hv1 : gi (si (si (si (si G 46 n (-2)) 45 4 0) 135 n (-2)) 81 85 0) 45 4 = 0 := by simp [gi_si, w2, w0]
      have hv2 : gi (si (si (si (si G 46 n (-2)) 45 4 0) 135 n (-2)) 81 85 0) 135 n = -2 := by simp [gi_si, w2, w0]
      have hv3 : gi (si (si (si (si G 46 n (-2)) 45 4 0) 135 n (-2)) 81 85 0) 81 85 = 0 := by simp [gi_si, w2, w0]
      have hgp : ∀ c k, gp (si (si (si (si G 46 n (-2)) 45 4 0) 135 n (-2)) 81 85 0) c k = gp G c k := fun _ _ => rfl
      have u0_14 := hin 0 14 (by omega)
      have u1_7 := hin 1 7 (by omega)
      have u9_5 := hin 9 5 (by omega)
      show Inv (si (si (si (si G 46 n (-2)) 45 4 0) 135 n (-2)) 81 85 0)
      generalize si (si (si (si G 46 n (-2)) 45 4 0) 135 n (-2)) 81 85 0 = G2 at *
      refine ⟨InvE_fr ?_ ?_ hE, InvP_fr (by omega) (by omega) (hin _ _ (by omega)) (fun c k h => hin _ _ (by omega)) hP, InvL_fr (by omega) (hin _ _ (by omega)) (fun c k h => hin _ _ (by omega)) hL, InvR_fr (hin _ _ (by omega)) (fun k => hin _ _ (by omega)) hR, InvS_fr (by omega) (by omega) (by omega) (hin _ _ (by omega)) (fun c k h => hin _ _ (by omega)) hS, InvT_fr (hin _ _ (by omega)) (fun c k h => hin _ _ (by omega)) hT, InvM_fr (hin _ _ (by omega)) (fun k => hin _ _ (by omega)) (fun c k h => hin _ _ (by omega)) hM, ⟨fun j' l' hj' hl' => by
          have h0 := hJ.1 j' l' hj' hl'
          by_cases z : 12 * j' + l' = n
          · rw [z, hv0, u9_5]; omega
          · rw [hin 46 _ (by omega), u9_5]; exact h0, by omega, by omega, fun q => by omega, fun q => by omega⟩, InvK_fr hgp (fun c k h => hin _ _ (by omega)) hK⟩
      · intro q hq k
        have := eqC_rng q hq
        by_cases z46 : k = n ∧ q.2 = 46
        · obtain ⟨rfl, z⟩ := z46
          right
          rw [z, show q.1 = 135 by omega, hv0, hv2]
        left
        exact ⟨hin _ _ (by omega), hin _ _ (by omega)⟩
      · intro q hq
        simp only [eqS, List.mem_cons, List.not_mem_nil, or_false] at hq
        rcases hq with rfl | rfl | rfl | rfl | rfl | rfl | rfl | rfl
        · exact Or.inl ⟨hin 81 0 (by omega), hin 0 14 (by omega)⟩
        · exact Or.inl ⟨hin 81 1 (by omega), hin 1 7 (by omega)⟩
        · exact Or.inl ⟨hin 81 10 (by omega), hin 9 5 (by omega)⟩
        · exact Or.inl ⟨hin 81 16 (by omega), hin 0 12 (by omega)⟩
        · exact Or.inl ⟨hin 81 43 (by omega), hin 15 1 (by omega)⟩
        · exact Or.inl ⟨hin 81 50 (by omega), hin 15 8 (by omega)⟩
        · exact Or.inl ⟨hin 81 52 (by omega), hin 15 9 (by omega)⟩
        · exact Or.inl ⟨hin 81 66 (by omega), hin 38 6 (by omega)⟩
  · exact ⟨(0, G), (0, G), by rw [H_unsay l1, if_neg c], by show f_Model_unsay G j l = _; rw [M_unsay (by omega) (by omega), e10, eU, if_neg c], rfl, hI'⟩
