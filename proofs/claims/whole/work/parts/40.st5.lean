/-! a new PERSON, a new LAND (printed by wip/whole/steps4.py) -/
theorem H_person37 {G : GS} {s f m a b z : Int} (h0 : 0 ≤ gi G 1 7) (h1 : gi G 1 7 ≤ 32) : f_Hall_person_L37 G s f m a b z = some (if (s = 0 ∨ s = 1) ∧ z ≠ 0 ∧ (0 ≤ a ∧ a ≤ b ∧ b ≤ gi G 0 14) ∧ gi G 1 7 < 32 then (gi G 1 7, addP G (gi G 1 7).toNat s f m a b) else (-1, G)) := by
  have hp := P_add (a1 := s) (a2 := f) (a3 := m) (a4 := a) (a5 := b) h0 h1
  have hb := isBirth_eq G a b
  generalize addP G (gi G 1 7).toNat s f m a b = G2 at *
  grind (splits := 20) [f_Hall_person_L37]
theorem H_person {G : GS} {s f m a b : Int} (h0 : 0 ≤ gi G 1 7) (h1 : gi G 1 7 ≤ 32) : f_Hall_person G s f m a b = some (if (s = 0 ∨ s = 1) ∧ (f = -1 ∨ (0 ≤ f ∧ f < gi G 1 7 ∧ gi G 2 f.toNat = 0)) ∧ (m = -1 ∨ (0 ≤ m ∧ m < gi G 1 7 ∧ gi G 2 m.toNat = 1)) ∧ (0 ≤ a ∧ a ≤ b ∧ b ≤ gi G 0 14) ∧ gi G 1 7 < 32 then (gi G 1 7, addP G (gi G 1 7).toNat s f m a b) else (-1, G)) := by
  have hf := isMan_eq f h1
  have hm := isWoman_eq m h1
  have q1 := H_person37 (s := s) (f := f) (m := m) (a := a) (b := b) (z := 1) h0 h1
  have q0 := H_person37 (s := s) (f := f) (m := m) (a := a) (b := b) (z := 0) h0 h1
  generalize addP G (gi G 1 7).toNat s f m a b = G2 at *
  grind (splits := 24) [f_Hall_person, f_Hall_person_L16, f_Hall_person_L32, f_Hall_person_L36]
theorem M_person {G : GS} {s f m a b : Int} (h0 : 0 ≤ gi G 81 1) (h1 : gi G 81 1 ≤ 32) (h2 : gi G 81 0 ≤ 29999) : f_Model_person G s f m a b = some (if (s = 0 ∨ s = 1) ∧ (f = -1 ∨ (0 ≤ f ∧ f < gi G 81 1 ∧ gi G 82 f.toNat = 0)) ∧ (m = -1 ∨ (0 ≤ m ∧ m < gi G 81 1 ∧ gi G 82 m.toNat = 1)) ∧ (0 ≤ a ∧ a ≤ b ∧ b ≤ gi G 81 0) ∧ gi G 81 1 < 32 then (gi G 81 1, addM G (gi G 81 1).toNat s f m a b) else (-1, G)) := by
  by_cases c1 : s = 0 ∨ s = 1
  · by_cases c2 : f = -1 ∨ (0 ≤ f ∧ f < gi G 81 1 ∧ gi G 82 f.toNat = 0)
    · by_cases c3 : m = -1 ∨ (0 ≤ m ∧ m < gi G 81 1 ∧ gi G 82 m.toNat = 1)
      · by_cases c4 : 0 ≤ a ∧ a ≤ b ∧ b ≤ gi G 81 0
        · by_cases c5 : gi G 81 1 < 32
          · rw [if_pos ⟨c1, c2, c3, c4, c5⟩]
            have hw : wr (gi G 81 1 + 1) = gi G 81 1 + 1 := wr_of (by omega) (by omega)
            have c6 : gi G 81 1 ≠ 32 := by omega
            unfold f_Model_person
            rw [isIn_eq, if_pos (by omega), isOf_eq f 0 h0 h1, if_pos c2, isOf_eq m 1 h0 h1, if_pos c3, isSpan_eq, if_pos (by omega)]
            simp [wG, gd, gi_si, c5, c6, h0, addM, hw, wr_gi, Int.toNat_of_nonneg h0]
          · rw [if_neg (fun q => c5 q.2.2.2.2)]
            have c6 : gi G 81 1 = 32 := by omega
            unfold f_Model_person
            rw [isIn_eq, if_pos (by omega), isOf_eq f 0 h0 h1, if_pos c2, isOf_eq m 1 h0 h1, if_pos c3, isSpan_eq, if_pos (by omega), c6]
            rfl
        · rw [if_neg (fun q => c4 q.2.2.2.1)]
          unfold f_Model_person
          rw [isIn_eq, if_pos (by omega), isOf_eq f 0 h0 h1, if_pos c2, isOf_eq m 1 h0 h1, if_pos c3, isSpan_eq, if_neg (by omega)]
          rfl
      · rw [if_neg (fun q => c3 q.2.2.1)]
        unfold f_Model_person
        rw [isIn_eq, if_pos (by omega), isOf_eq f 0 h0 h1, if_pos c2, isOf_eq m 1 h0 h1, if_neg c3]
        rfl
    · rw [if_neg (fun q => c2 q.2.1)]
      unfold f_Model_person
      rw [isIn_eq, if_pos (by omega), isOf_eq f 0 h0 h1, if_neg c2]
      rfl
  · rw [if_neg (fun q => c1 q.1)]
    unfold f_Model_person
    rw [isIn_eq, if_neg (by omega)]
    rfl
theorem step_person : Step_person Inv := by
  intro G s f m a b hs hf hm ha hb hI
  have hI' := hI
  obtain ⟨hE, hP, hL, hR, hS, hT, hM, hJ, hK⟩ := hI
  have e0 := hE.2 ((81, 0), (0, 14)) (by decide)
  simp only at e0
  have e1 := hE.2 ((81, 1), (1, 7)) (by decide)
  simp only at e1
  have n0 := hP.1
  have n1 := hP.2.1
  have k0 := hP.2.2.1
  have k1 := hP.2.2.2.1
  have e2f := hE.1 (82, 2) (by decide) f.toNat
  have e2m := hE.1 (82, 2) (by decide) m.toNat
  simp only at e2f e2m
  have w1 : wr (-1) = -1 := wr_of (by omega) (by omega)
  by_cases c : (s = 0 ∨ s = 1) ∧ (f = -1 ∨ (0 ≤ f ∧ f < gi G 1 7 ∧ gi G 2 f.toNat = 0)) ∧ (m = -1 ∨ (0 ≤ m ∧ m < gi G 1 7 ∧ gi G 2 m.toNat = 1)) ∧ (0 ≤ a ∧ a ≤ b ∧ b ≤ gi G 0 14) ∧ gi G 1 7 < 32
  · obtain ⟨n, hn⟩ : ∃ n : Nat, n = (gi G 1 7).toNat := ⟨_, rfl⟩
    have hw : wr ((n : Int) + 1) = (n : Int) + 1 := wr_of (by omega) (by omega)
    have hG : ∀ c k, 81 ≤ c → gi (addP G n s f m a b) c k = gi G c k := fun c k q => by
      simp only [addP, gi_si]
      repeat rw [if_neg (by omega)]
    refine ⟨(gi G 1 7, addP G n s f m a b), (gi G 1 7, addM (addP G n s f m a b) n s f m a b), ?_, ?_, rfl, ?_⟩
    · rw [H_person k0 k1, if_pos c, hn]
    · show f_Model_person (addP G n s f m a b) s f m a b = _
      rw [M_person (by rw [hG _ _ (by omega)]; omega) (by rw [hG _ _ (by omega)]; omega) (by rw [hG _ _ (by omega)]; omega), hG 81 1 (by omega), hG 81 0 (by omega), hG 82 f.toNat (by omega), hG 82 m.toNat (by omega), e0, e1, e2f, e2m, if_pos c, hn]
    · have hin : ∀ c k, ¬ ((c = 2 ∧ k = n) ∨ (c = 3 ∧ k = n) ∨ (c = 4 ∧ k = n) ∨ (c = 5 ∧ k = n) ∨ (c = 6 ∧ k = n) ∨ (c = 7 ∧ k = n) ∨ (c = 8 ∧ k = n) ∨ (c = 1 ∧ k = 7) ∨ (c = 82 ∧ k = n) ∨ (c = 83 ∧ k = n) ∨ (c = 84 ∧ k = n) ∨ (c = 85 ∧ k = n) ∨ (c = 86 ∧ k = n) ∨ (c = 87 ∧ k = n) ∨ (c = 88 ∧ k = n) ∨ (c = 81 ∧ k = 1)) → gi (addM (addP G n s f m a b) n s f m a b) c k = gi G c k := fun c k q => by
        simp only [not_or] at q
        simp only [addM, addP, gi_si]
        repeat rw [if_neg (by omega)]
      have hv0 : gi (addM (addP G n s f m a b) n s f m a b) 2 n = s := by simp [gi_si, addM, addP, hs, hf, hm, ha, hb, w1, hw]
      have hv1 : gi (addM (addP G n s f m a b) n s f m a b) 3 n = f := by simp [gi_si, addM, addP, hs, hf, hm, ha, hb, w1, hw]
      have hv2 : gi (addM (addP G n s f m a b) n s f m a b) 4 n = m := by simp [gi_si, addM, addP, hs, hf, hm, ha, hb, w1, hw]
      have hv3 : gi (addM (addP G n s f m a b) n s f m a b) 5 n = a := by simp [gi_si, addM, addP, hs, hf, hm, ha, hb, w1, hw]
      have hv4 : gi (addM (addP G n s f m a b) n s f m a b) 6 n = b := by simp [gi_si, addM, addP, hs, hf, hm, ha, hb, w1, hw]
      have hv5 : gi (addM (addP G n s f m a b) n s f m a b) 7 n = -1 := by simp [gi_si, addM, addP, hs, hf, hm, ha, hb, w1, hw]
      have hv6 : gi (addM (addP G n s f m a b) n s f m a b) 8 n = -1 := by simp [gi_si, addM, addP, hs, hf, hm, ha, hb, w1, hw]
      have hv7 : gi (addM (addP G n s f m a b) n s f m a b) 1 7 = (n : Int) + 1 := by simp [gi_si, addM, addP, hs, hf, hm, ha, hb, w1, hw]
      have hv8 : gi (addM (addP G n s f m a b) n s f m a b) 82 n = s := by simp [gi_si, addM, addP, hs, hf, hm, ha, hb, w1, hw]
      have hv9 : gi (addM (addP G n s f m a b) n s f m a b) 83 n = f := by simp [gi_si, addM, addP, hs, hf, hm, ha, hb, w1, hw]
      have hv10 : gi (addM (addP G n s f m a b) n s f m a b) 84 n = m := by simp [gi_si, addM, addP, hs, hf, hm, ha, hb, w1, hw]
      have hv11 : gi (addM (addP G n s f m a b) n s f m a b) 85 n = a := by simp [gi_si, addM, addP, hs, hf, hm, ha, hb, w1, hw]
      have hv12 : gi (addM (addP G n s f m a b) n s f m a b) 86 n = b := by simp [gi_si, addM, addP, hs, hf, hm, ha, hb, w1, hw]
      have hv13 : gi (addM (addP G n s f m a b) n s f m a b) 87 n = -1 := by simp [gi_si, addM, addP, hs, hf, hm, ha, hb, w1, hw]
      have hv14 : gi (addM (addP G n s f m a b) n s f m a b) 88 n = -1 := by simp [gi_si, addM, addP, hs, hf, hm, ha, hb, w1, hw]
      have hv15 : gi (addM (addP G n s f m a b) n s f m a b) 81 1 = (n : Int) + 1 := by simp [gi_si, addM, addP, hs, hf, hm, ha, hb, w1, hw]
      have hgp : ∀ c k, gp (addM (addP G n s f m a b) n s f m a b) c k = gp G c k := fun _ _ => rfl
      have u0_14 := hin 0 14 (by omega)
      have u9_5 := hin 9 5 (by omega)
      show Inv (addM (addP G n s f m a b) n s f m a b)
      generalize addM (addP G n s f m a b) n s f m a b = G2 at *
      refine ⟨InvE_fr ?_ ?_ hE, ⟨by omega, by omega, by omega, by omega, fun x hx => by
          have r25 : ∀ k, gi G2 25 k = gi G 25 k := fun k => hin 25 k (by omega)
          by_cases z : x = n
          · have hz := hP.2.2.2.2.2 n (by omega)
            have sf : f ≠ -1 → gi G2 2 f.toNat = gi G 2 f.toNat := fun q => hin 2 _ (by omega)
            have sm : m ≠ -1 → gi G2 2 m.toNat = gi G 2 m.toNat := fun q => hin 2 _ (by omega)
            unfold POK
            rw [z, hv0, hv1, hv2, hv3, hv4, hv5, hv6, r25, hz, u0_14]
            refine ⟨c.1, ?_, ?_, ?_, Or.inl rfl, Or.inl rfl, by omega, by omega⟩
            · rcases Int.decEq f (-1) with q | q
              · rw [sf q]; omega
              · exact Or.inl q
            · rcases Int.decEq m (-1) with q | q
              · rw [sm q]; omega
              · exact Or.inl q
            · omega
          · have h0 := hP.2.2.2.2.1 x (by omega)
            unfold POK at h0 ⊢
            have rr : ∀ c : Nat, 2 ≤ c → c ≤ 8 → ∀ k, k ≠ n → gi G2 c k = gi G c k := fun c q1 q2 k q3 => hin c k (by omega)
            rw [rr 2 (by decide) (by decide) x z, rr 3 (by decide) (by decide) x z, rr 4 (by decide) (by decide) x z, rr 5 (by decide) (by decide) x z, rr 6 (by decide) (by decide) x z, rr 7 (by decide) (by decide) x z, rr 8 (by decide) (by decide) x z, r25, u0_14, hv7]
            have sf : gi G 3 x ≠ -1 → gi G2 2 (gi G 3 x).toNat = gi G 2 (gi G 3 x).toNat := fun q => rr 2 (by decide) (by decide) _ (by omega)
            have sm : gi G 4 x ≠ -1 → gi G2 2 (gi G 4 x).toNat = gi G 2 (gi G 4 x).toNat := fun q => rr 2 (by decide) (by decide) _ (by omega)
            have sw : gi G 8 x ≠ -1 → gi G2 2 (gi G 8 x).toNat = gi G 2 (gi G 8 x).toNat := fun q => rr 2 (by decide) (by decide) _ (by omega)
            refine ⟨h0.1, ?_, ?_, h0.2.2.2.1, h0.2.2.2.2.1, ?_, h0.2.2.2.2.2.2⟩
            · rcases Int.decEq (gi G 3 x) (-1) with q | q
              · rw [sf q]; exact h0.2.1
              · exact Or.inl q
            · rcases Int.decEq (gi G 4 x) (-1) with q | q
              · rw [sm q]; exact h0.2.2.1
              · exact Or.inl q
            · rcases Int.decEq (gi G 8 x) (-1) with q | q
              · rw [sw q]; omega
              · exact Or.inl q, fun x hx => by rw [hin 25 x (by omega)]; exact hP.2.2.2.2.2 x (by omega)⟩, InvL_fr (by omega) (hin _ _ (by omega)) (fun c k h => hin _ _ (by omega)) hL, InvR_fr (hin _ _ (by omega)) (fun k => hin _ _ (by omega)) hR, InvS_fr (by omega) (by omega) (by omega) (hin _ _ (by omega)) (fun c k h => hin _ _ (by omega)) hS, InvT_fr (hin _ _ (by omega)) (fun c k h => hin _ _ (by omega)) hT, ⟨fun x => by rw [hin 24 x (by omega)]; exact hM.1 x, fun x m' hp hm => by
          rw [hin 25 x (by omega)] at hm
          have hz : (x : Int) < gi G 1 7 := by
            rcases Int.lt_or_le (x : Int) (gi G 1 7) with q | q
            · exact q
            · have := hP.2.2.2.2.2 x q
              omega
          have h0 := hM.2 x m' hz hm
          unfold MOKe at h0 ⊢
          have rr : ∀ c : Nat, 9 ≤ c → c ≠ 81 → (c < 82 ∨ 88 < c) → ∀ k, gi G2 c k = gi G c k := fun c q1 q2 q3 k => hin c k (by omega)
          simp only [rr 24 (by decide) (by decide) (by decide), rr 26 (by decide) (by decide) (by decide), rr 27 (by decide) (by decide) (by decide), rr 28 (by decide) (by decide) (by decide), rr 131 (by decide) (by decide) (by decide), rr 132 (by decide) (by decide) (by decide), rr 133 (by decide) (by decide) (by decide), rr 134 (by decide) (by decide) (by decide)]
          exact h0⟩, InvJ_fr (by omega) (fun k => hin _ _ (by omega)) (hin _ _ (by omega)) (hin _ _ (by omega)) (fun k => hin _ _ (by omega)) (Or.inl (hin _ _ (by omega))) (hin _ _ (by omega)) hJ, InvK_fr hgp (fun c k h => hin _ _ (by omega)) hK⟩
      · intro q hq k
        have := eqC_rng q hq
        by_cases z2 : k = n ∧ q.2 = 2
        · obtain ⟨rfl, z⟩ := z2
          right
          rw [z, show q.1 = 82 by omega, hv0, hv8]
        by_cases z3 : k = n ∧ q.2 = 3
        · obtain ⟨rfl, z⟩ := z3
          right
          rw [z, show q.1 = 83 by omega, hv1, hv9]
        by_cases z4 : k = n ∧ q.2 = 4
        · obtain ⟨rfl, z⟩ := z4
          right
          rw [z, show q.1 = 84 by omega, hv2, hv10]
        by_cases z5 : k = n ∧ q.2 = 5
        · obtain ⟨rfl, z⟩ := z5
          right
          rw [z, show q.1 = 85 by omega, hv3, hv11]
        by_cases z6 : k = n ∧ q.2 = 6
        · obtain ⟨rfl, z⟩ := z6
          right
          rw [z, show q.1 = 86 by omega, hv4, hv12]
        by_cases z7 : k = n ∧ q.2 = 7
        · obtain ⟨rfl, z⟩ := z7
          right
          rw [z, show q.1 = 87 by omega, hv5, hv13]
        by_cases z8 : k = n ∧ q.2 = 8
        · obtain ⟨rfl, z⟩ := z8
          right
          rw [z, show q.1 = 88 by omega, hv6, hv14]
        left
        exact ⟨hin _ _ (by omega), hin _ _ (by omega)⟩
      · intro q hq
        simp only [eqS, List.mem_cons, List.not_mem_nil, or_false] at hq
        rcases hq with rfl | rfl | rfl | rfl | rfl | rfl | rfl | rfl
        · exact Or.inl ⟨hin 81 0 (by omega), hin 0 14 (by omega)⟩
        · exact Or.inr (hv15.trans hv7.symm)
        · exact Or.inl ⟨hin 81 10 (by omega), hin 9 5 (by omega)⟩
        · exact Or.inl ⟨hin 81 16 (by omega), hin 0 12 (by omega)⟩
        · exact Or.inl ⟨hin 81 43 (by omega), hin 15 1 (by omega)⟩
        · exact Or.inl ⟨hin 81 50 (by omega), hin 15 8 (by omega)⟩
        · exact Or.inl ⟨hin 81 52 (by omega), hin 15 9 (by omega)⟩
        · exact Or.inl ⟨hin 81 66 (by omega), hin 38 6 (by omega)⟩
  · exact ⟨(-1, G), (-1, G), by rw [H_person k0 k1, if_neg c], by show f_Model_person G s f m a b = _; rw [M_person (by omega) (by omega) (by omega), e0, e1, e2f, e2m, if_neg c], rfl, hI'⟩
