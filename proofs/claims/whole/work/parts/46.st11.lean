/-! the step of a seizing (printed by wip/whole/steps7.py) -/
theorem onV_fr {G G' : GS} {d : Int} {r : Nat} (h1 : gi G' 0 12 = gi G 0 12) (h2 : ∀ k, gi G' 74 k = gi G 74 k) (h : onV G' d r) : onV G d r := by
  unfold onV at h ⊢
  rw [h1] at h
  simp only [h2] at h
  exact h
theorem on_h {G : GS} {d : Int} (hR : InvR G) (hd : 0 ≤ d) : ∃ r : Nat, r < 4 ∧ onV G d r ∧ f_Hall_reignOn G d = some (r : Int) := by
  obtain ⟨r0, r1, r2, r3, r4⟩ := hR
  obtain ⟨r, a1, a2⟩ := on_H (d := d) r1 FU 0 1 (by omega) (by decide) (by rw [r2]; exact hd) (fun s a b => by omega) (by unfold FU; omega)
  exact ⟨r, by have := a2.1; omega, a2, a1⟩
theorem on_m {G : GS} {d : Int} (hR : InvR G) (hd : 0 ≤ d) (e16 : gi G 81 16 = gi G 0 12) (e95 : ∀ k, gi G 95 k = gi G 74 k) : ∃ r : Nat, r < 4 ∧ onV G d r ∧ f_Model_reignOn G d = some (r : Int) := by
  obtain ⟨r0, r1, r2, r3, r4⟩ := hR
  obtain ⟨s, b1, b2⟩ := on_M (d := d) r2 hd r1 e95 FU (gi G 0 12 - 1).toNat (by omega) (fun s a b => by omega) (by unfold FU; omega)
  refine ⟨s, by have := b2.1; omega, b2, ?_⟩
  have hw : wr (gi G 0 12 - 1) = gi G 0 12 - 1 := wr_of (by omega) (by omega)
  unfold f_Model_reignOn
  rw [e16, hw, ← b1]
  congr 1
  omega
theorem seize_inv {G G2 : GS} {l t d h v : Int} {n : Nat} (hI : Inv G) (hn : n = (gi G 38 6).toNat) (hc : gi G 38 6 < 100) (cl : 0 ≤ l ∧ l < gi G 9 5) (ct : t = -1 ∨ (0 ≤ t ∧ t < gi G 1 7)) (cd : 0 ≤ d ∧ d ≤ gi G 0 14) (ch : h = -1 ∨ (0 ≤ h ∧ h < gi G 38 6 ∧ gi G 44 h.toNat = -1)) (cv : v = -1 ∨ v = gi G 0 14) (hin : ∀ c k, ¬ ((c = 39 ∧ k = n) ∨ (c = 40 ∧ k = n) ∨ (c = 41 ∧ k = n) ∨ (c = 42 ∧ k = n) ∨ (c = 43 ∧ k = n) ∨ (c = 44 ∧ k = n) ∨ (c = 38 ∧ k = 6) ∨ (c = 123 ∧ k = n) ∨ (c = 124 ∧ k = n) ∨ (c = 125 ∧ k = n) ∨ (c = 126 ∧ k = n) ∨ (c = 127 ∧ k = n) ∨ (c = 128 ∧ k = n) ∨ (c = 81 ∧ k = 66)) → gi G2 c k = gi G c k) (hv0 : gi G2 39 n = l) (hv1 : gi G2 40 n = t) (hv2 : gi G2 41 n = d) (hv3 : gi G2 42 n = gi G 0 14) (hv4 : gi G2 43 n = h) (hv5 : gi G2 44 n = v) (hv6 : gi G2 38 6 = (n : Int) + 1) (hv7 : gi G2 123 n = l) (hv8 : gi G2 124 n = t) (hv9 : gi G2 125 n = d) (hv10 : gi G2 126 n = gi G 0 14) (hv11 : gi G2 127 n = h) (hv12 : gi G2 128 n = v) (hv13 : gi G2 81 66 = (n : Int) + 1) (hgp : ∀ c k, gp G2 c k = gp G c k) : Inv G2 := by
  obtain ⟨hE, hP, hL, hR, hS, hT, hM, hJ, hK⟩ := hI
  have n0 := hP.1
  have n1 := hP.2.1
  have k0 := hP.2.2.1
  have s0 := hS.1
  have u0_14 := hin 0 14 (by omega)
  have u1_7 := hin 1 7 (by omega)
  have u9_5 := hin 9 5 (by omega)
  refine ⟨InvE_fr ?_ ?_ hE, InvP_fr (by omega) (by omega) (hin _ _ (by omega)) (fun c k h => hin _ _ (by omega)) hP, InvL_fr (by omega) (hin _ _ (by omega)) (fun c k h => hin _ _ (by omega)) hL, InvR_fr (hin _ _ (by omega)) (fun k => hin _ _ (by omega)) hR, ⟨by omega, by omega, fun e he => by
    by_cases z : e = n
    · unfold SOKe
      rw [z, hv0, hv1, hv2, hv3, hv4, hv5, u0_14, u1_7, u9_5]
      refine ⟨cl, ct, cd, by omega, by omega, by omega, fun q => ?_⟩
      rcases ch with q1 | q1
      · exact Or.inl q1
      · exact Or.inr (by rw [hin 44 _ (by omega)]; exact q1.2.2)
    · have h0 := hS.2.2 e (by omega)
      unfold SOKe at h0 ⊢
      rw [hin 39 e (by omega), hin 40 e (by omega), hin 41 e (by omega), hin 42 e (by omega), hin 43 e (by omega), hin 44 e (by omega), u0_14, u1_7, u9_5]
      refine ⟨h0.1, h0.2.1, h0.2.2.1, h0.2.2.2.1, h0.2.2.2.2.1, h0.2.2.2.2.2.1, fun q => ?_⟩
      rcases Int.decEq (gi G 43 e) (-1) with q1 | q1
      · rw [hin 44 _ (by omega)]; exact h0.2.2.2.2.2.2 q
      · exact Or.inl q1⟩, InvT_fr (hin _ _ (by omega)) (fun c k h => hin _ _ (by omega)) hT, InvM_fr (hin _ _ (by omega)) (fun k => hin _ _ (by omega)) (fun c k h => hin _ _ (by omega)) hM, InvJ_fr (by omega) (fun k => hin _ _ (by omega)) (hin _ _ (by omega)) (hin _ _ (by omega)) (fun k => hin _ _ (by omega)) (Or.inl (hin _ _ (by omega))) (hin _ _ (by omega)) hJ, InvK_fr hgp (fun c k h => hin _ _ (by omega)) hK⟩
  · intro q hq k
    have := eqC_rng q hq
    by_cases z39 : k = n ∧ q.2 = 39
    · obtain ⟨rfl, z⟩ := z39
      right
      rw [z, show q.1 = 123 by omega, hv0, hv7]
    by_cases z40 : k = n ∧ q.2 = 40
    · obtain ⟨rfl, z⟩ := z40
      right
      rw [z, show q.1 = 124 by omega, hv1, hv8]
    by_cases z41 : k = n ∧ q.2 = 41
    · obtain ⟨rfl, z⟩ := z41
      right
      rw [z, show q.1 = 125 by omega, hv2, hv9]
    by_cases z42 : k = n ∧ q.2 = 42
    · obtain ⟨rfl, z⟩ := z42
      right
      rw [z, show q.1 = 126 by omega, hv3, hv10]
    by_cases z43 : k = n ∧ q.2 = 43
    · obtain ⟨rfl, z⟩ := z43
      right
      rw [z, show q.1 = 127 by omega, hv4, hv11]
    by_cases z44 : k = n ∧ q.2 = 44
    · obtain ⟨rfl, z⟩ := z44
      right
      rw [z, show q.1 = 128 by omega, hv5, hv12]
    left
    exact ⟨hin _ _ (by omega), hin _ _ (by omega)⟩
  · intro q hq
    simp only [eqS, List.mem_cons, List.not_mem_nil, or_false] at hq
    rcases hq with rfl | rfl | rfl | rfl | rfl | rfl | rfl | rfl
    · exact Or.inl ⟨hin 81 0 (by omega), hin 0 14 (by omega)⟩
    · exact Or.inl ⟨hin 81 1 (by omega), hin 1 7 (by omega)⟩
    · exact Or.inl ⟨hin 81 10 (by omega), hin 9 5 (by omega)⟩
    · exact Or.inl ⟨hin 81 16 (by omega), hin 0 12 (by omega)⟩
    · exact Or.inl ⟨hin 81 43 (by omega), hin 15 1 (by omega)⟩
    · exact Or.inl ⟨hin 81 50 (by omega), hin 15 8 (by omega)⟩
    · exact Or.inl ⟨hin 81 52 (by omega), hin 15 9 (by omega)⟩
    · exact Or.inr (hv13.trans hv6.symm)
theorem seize_f1 {G : GS} {l t d h : Int} {n : Nat} (hI : Inv G) (hn : n = (gi G 38 6).toNat) (cc : gi G 38 6 < 100) (cl : 0 ≤ l ∧ l < gi G 9 5) (ct : t = -1 ∨ (0 ≤ t ∧ t < gi G 1 7)) (cd : 0 ≤ d ∧ d ≤ gi G 0 14) (ch : h = -1 ∨ (0 ≤ h ∧ h < gi G 38 6 ∧ gi G 44 h.toNat = -1)) (hl : wr l = l) (ht : wr t = t) (hd : wr d = d) (hh : wr h = h) : Inv (si (addT (addS G n l t d h (gi G 0 14)) n l t d h (gi G 0 14)) 128 n (-1)) := by
  have w1 : wr (-1) = -1 := wr_of (by omega) (by omega)
  have s0 := hI.2.2.2.2.1.1
  have hw : wr ((n : Int) + 1) = (n : Int) + 1 := wr_of (by omega) (by omega)
  refine seize_inv (v := -1) hI hn cc cl ct cd ch (Or.inl rfl) (fun c k q => ?_) ?_ ?_ ?_ ?_ ?_ ?_ ?_ ?_ ?_ ?_ ?_ ?_ ?_ ?_ (fun _ _ => rfl)
  · simp only [not_or] at q
    simp only [addT, addS, gi_si]
    repeat rw [if_neg (by omega)]
  · simp [addT, addS, gi_si, hl, ht, hd, hh, w1, hw, wr_gi]
  · simp [addT, addS, gi_si, hl, ht, hd, hh, w1, hw, wr_gi]
  · simp [addT, addS, gi_si, hl, ht, hd, hh, w1, hw, wr_gi]
  · simp [addT, addS, gi_si, hl, ht, hd, hh, w1, hw, wr_gi]
  · simp [addT, addS, gi_si, hl, ht, hd, hh, w1, hw, wr_gi]
  · simp [addT, addS, gi_si, hl, ht, hd, hh, w1, hw, wr_gi]
  · simp [addT, addS, gi_si, hl, ht, hd, hh, w1, hw, wr_gi]
  · simp [addT, addS, gi_si, hl, ht, hd, hh, w1, hw, wr_gi]
  · simp [addT, addS, gi_si, hl, ht, hd, hh, w1, hw, wr_gi]
  · simp [addT, addS, gi_si, hl, ht, hd, hh, w1, hw, wr_gi]
  · simp [addT, addS, gi_si, hl, ht, hd, hh, w1, hw, wr_gi]
  · simp [addT, addS, gi_si, hl, ht, hd, hh, w1, hw, wr_gi]
  · simp [addT, addS, gi_si, hl, ht, hd, hh, w1, hw, wr_gi]
  · simp [addT, addS, gi_si, hl, ht, hd, hh, w1, hw, wr_gi]
theorem seize_f2 {G : GS} {l t d h : Int} {n : Nat} (hI : Inv G) (hn : n = (gi G 38 6).toNat) (cc : gi G 38 6 < 100) (cl : 0 ≤ l ∧ l < gi G 9 5) (ct : t = -1 ∨ (0 ≤ t ∧ t < gi G 1 7)) (cd : 0 ≤ d ∧ d ≤ gi G 0 14) (ch : h = -1 ∨ (0 ≤ h ∧ h < gi G 38 6 ∧ gi G 44 h.toNat = -1)) (hl : wr l = l) (ht : wr t = t) (hd : wr d = d) (hh : wr h = h) : Inv (si (addT (si (addS G n l t d h (gi G 0 14)) 44 n (gi G 0 14)) n l t d h (gi G 0 14)) 128 n (gi G 0 14)) := by
  have w1 : wr (-1) = -1 := wr_of (by omega) (by omega)
  have s0 := hI.2.2.2.2.1.1
  have hw : wr ((n : Int) + 1) = (n : Int) + 1 := wr_of (by omega) (by omega)
  refine seize_inv (v := (gi G 0 14)) hI hn cc cl ct cd ch (Or.inr rfl) (fun c k q => ?_) ?_ ?_ ?_ ?_ ?_ ?_ ?_ ?_ ?_ ?_ ?_ ?_ ?_ ?_ (fun _ _ => rfl)
  · simp only [not_or] at q
    simp only [addT, addS, gi_si]
    repeat rw [if_neg (by omega)]
  · simp [addT, addS, gi_si, hl, ht, hd, hh, w1, hw, wr_gi]
  · simp [addT, addS, gi_si, hl, ht, hd, hh, w1, hw, wr_gi]
  · simp [addT, addS, gi_si, hl, ht, hd, hh, w1, hw, wr_gi]
  · simp [addT, addS, gi_si, hl, ht, hd, hh, w1, hw, wr_gi]
  · simp [addT, addS, gi_si, hl, ht, hd, hh, w1, hw, wr_gi]
  · simp [addT, addS, gi_si, hl, ht, hd, hh, w1, hw, wr_gi]
  · simp [addT, addS, gi_si, hl, ht, hd, hh, w1, hw, wr_gi]
  · simp [addT, addS, gi_si, hl, ht, hd, hh, w1, hw, wr_gi]
  · simp [addT, addS, gi_si, hl, ht, hd, hh, w1, hw, wr_gi]
  · simp [addT, addS, gi_si, hl, ht, hd, hh, w1, hw, wr_gi]
  · simp [addT, addS, gi_si, hl, ht, hd, hh, w1, hw, wr_gi]
  · simp [addT, addS, gi_si, hl, ht, hd, hh, w1, hw, wr_gi]
  · simp [addT, addS, gi_si, hl, ht, hd, hh, w1, hw, wr_gi]
  · simp [addT, addS, gi_si, hl, ht, hd, hh, w1, hw, wr_gi]
theorem step_seize : Step_seize Inv := by
  intro G l t d h x hl ht hd hh hx hI
  have hI' := hI
  obtain ⟨hE, hP, hL, hR, hS, hT, hM, hJ, hK⟩ := hI
  have e0 := hE.2 ((81, 0), (0, 14)) (by decide)
  simp only at e0
  have e1 := hE.2 ((81, 1), (1, 7)) (by decide)
  simp only at e1
  have e10 := hE.2 ((81, 10), (9, 5)) (by decide)
  simp only at e10
  have e16 := hE.2 ((81, 16), (0, 12)) (by decide)
  simp only at e16
  have e66 := hE.2 ((81, 66), (38, 6)) (by decide)
  simp only at e66
  have n0 := hP.1
  have n1 := hP.2.1
  have k0 := hP.2.2.1
  have k1 := hP.2.2.2.1
  have l0 := hL.1
  have l1 := hL.2.1
  have s0 := hS.1
  have s1 := hS.2.1
  have e128 := hE.1 (128, 44) (by decide)
  have e87 := hE.1 (87, 7) (by decide)
  have e95 := hE.1 (95, 74) (by decide)
  simp only at e128 e87 e95
  have w1 : wr (-1) = -1 := wr_of (by omega) (by omega)
  have hMo : ∀ G1, (∀ c k, 45 ≤ c → gi G1 c k = gi G c k) → f_Model_seize G1 l t d h x = if (0 ≤ l ∧ l < gi G 9 5) ∧ (t = -1 ∨ (0 ≤ t ∧ t < gi G 1 7)) ∧ (0 ≤ d ∧ d ≤ gi G 0 14) ∧ (h = -1 ∨ (0 ≤ h ∧ h < gi G 38 6 ∧ gi G 44 h.toNat = -1)) ∧ (x = -1 ∨ (0 ≤ x ∧ x < gi G 1 7 ∧ gi G 7 x.toNat ≠ -1)) then f_Model_seize_L85 G1 l t d h x else some (-1, G1) := fun G1 q => by
    rw [M_seize (by rw [q _ _ (by omega)]; omega) (by rw [q _ _ (by omega)]; omega) (by rw [q _ _ (by omega)]; omega) (by rw [q _ _ (by omega)]; omega) (by rw [q _ _ (by omega)]; omega) (by rw [q _ _ (by omega)]; omega), q 81 10 (by omega), q 81 1 (by omega), q 81 0 (by omega), q 81 66 (by omega), q 128 _ (by omega), q 87 _ (by omega), e0, e1, e10, e66, e128, e87]
  by_cases c : (0 ≤ l ∧ l < gi G 9 5) ∧ (t = -1 ∨ (0 ≤ t ∧ t < gi G 1 7)) ∧ (0 ≤ d ∧ d ≤ gi G 0 14) ∧ (h = -1 ∨ (0 ≤ h ∧ h < gi G 38 6 ∧ gi G 44 h.toNat = -1)) ∧ (x = -1 ∨ (0 ≤ x ∧ x < gi G 1 7 ∧ gi G 7 x.toNat ≠ -1))
  · by_cases cc : gi G 38 6 < 100
    · obtain ⟨n, hn⟩ : ∃ n : Nat, n = (gi G 38 6).toNat := ⟨_, rfl⟩
      have hw : wr ((n : Int) + 1) = (n : Int) + 1 := wr_of (by omega) (by omega)
      have hG : ∀ c k, (45 ≤ c ∨ c < 38) → gi (addS G n l t d h (gi G 0 14)) c k = gi G c k := fun c k q => by
        simp only [addS, gi_si]
        repeat rw [if_neg (by omega)]
      have hG2 : ∀ c k, (45 ≤ c ∨ c < 38) → gi (si (addS G n l t d h (gi G 0 14)) 44 n (gi G 0 14)) c k = gi G c k := fun c k q => by
        rw [gi_si, if_neg (by omega)]; exact hG c k q
      by_cases cx : x = -1
      · subst cx
        refine ⟨(gi G 38 6, addS G n l t d h (gi G 0 14)), (gi G 38 6, si (addT (addS G n l t d h (gi G 0 14)) n l t d h (gi G 0 14)) 128 n (-1)), ?_, ?_, rfl, ?_⟩
        · rw [H_seize s1 k1, if_pos c, H_101n s0 cc, hn]
        · show f_Model_seize (addS G n l t d h (gi G 0 14)) l t d h (-1) = _
          rw [hMo _ (fun c k q => hG c k (Or.inl q)), if_pos c, M_85n (by rw [hG _ _ (by omega)]; omega) (by rw [hG _ _ (by omega)]; omega), hG 81 66 (by omega), hG 81 0 (by omega), e66, e0, hn]
        · exact seize_f1 hI' hn cc c.1 c.2.1 c.2.2.1 c.2.2.2.1 hl ht hd hh
      · have cX : 0 ≤ x ∧ x < gi G 1 7 ∧ gi G 7 x.toNat ≠ -1 := by
          rcases c.2.2.2.2 with q | q
          · exact absurd q cx
          · exact q
        have pX := hP.2.2.2.2.1 x.toNat (by omega)
        unfold POK at pX
        have hD : 0 ≤ gi G 7 x.toNat ∧ gi G 7 x.toNat ≤ 29999 := by omega
        have hR7 : InvR (addS G n l t d h (gi G 0 14)) := InvR_fr (hG _ _ (by omega)) (fun k => hG _ _ (by omega)) hR
        obtain ⟨r, r4, a1, a2⟩ := on_h (d := gi G 7 x.toNat) hR7 hD.1
        have a3 := onV_fr (hG _ _ (by omega)) (fun k => hG _ _ (by omega)) a1
        have lr := hK.2.2.2.2 r r4
        have lc := hK.1 r r4
        have r4' : (r : Int) < 4 := by omega
        have hz : f_Hall_lawAt (addS G n l t d h (gi G 0 14)) (gi (addS G n l t d h (gi G 0 14)) 7 x.toNat) = some (gp G 49 r) := by
          rw [hG 7 _ (by omega)]
          unfold f_Hall_lawAt
          rw [a2]
          have : ∀ k, gp (addS G n l t d h (gi G 0 14)) 49 k = gp G 49 k := fun _ => rfl
          simp [gd, this, lc, r4']
        have hrng := law_rng lc
        have hH := H_101x (l := l) (t := t) (d := d) (h := h) s0 cc ⟨cX.1, by omega⟩ (by rw [← hn]) hz
        rw [hG 0 14 (by omega), hG 7 _ (by omega), hG (gp G 49 r) 6 (by omega), ← hn, wr_of (by have := lr.2.1; omega) (by have := lr.2.1; omega)] at hH
        have e98 : gi G 98 r = gi G (gp G 49 r) 6 := lr.1.2.2.1
        have mod : ∀ G1, (∀ c k, (45 ≤ c ∨ c < 38) → gi G1 c k = gi G c k) → f_Model_seize G1 l t d h x = some (gi G 38 6, si (addT G1 n l t d h (gi G 0 14)) 128 n (if gi G 0 14 ≤ gi G 7 x.toNat + gi G (gp G 49 r) 6 then -1 else gi G 0 14)) := fun G1 q => by
          have q6 : ∀ c k, (c < 38 ∨ (45 ≤ c ∧ c ≠ 81 ∧ ¬ (123 ≤ c ∧ c ≤ 127)) ∨ (c = 81 ∧ k ≠ 66)) → gi (addT G1 n l t d h (gi G 0 14)) c k = gi G c k := fun c k z => by
            simp only [addT, gi_si]
            repeat rw [if_neg (by omega)]
            exact q c k (by omega)
          obtain ⟨s, s4, b1, b2⟩ := on_m (G := addT G1 n l t d h (gi G 0 14)) (d := gi G 7 x.toNat) (InvR_fr (q6 _ _ (by omega)) (fun k => q6 _ _ (by omega)) hR) hD.1 (by rw [q6 _ _ (by omega), q6 _ _ (by omega)]; exact e16) (fun k => by rw [q6 _ _ (by omega), q6 _ _ (by omega)]; exact e95 k)
          have b3 := on_one (onV_fr (q6 _ _ (by omega)) (fun k => q6 _ _ (by omega)) b1) a3
          rw [b3] at b2
          have z := M_85x (G := G1) (G6 := addT G1 n l t d h (gi G 0 14)) (l := l) (t := t) (d := d) (h := h) (x := x) (r := r) (by rw [q _ _ (by omega)]; omega) (by rw [q _ _ (by omega)]; omega) ⟨cX.1, by omega⟩ r4 (by rw [q 81 66 (by omega), q 81 0 (by omega), e66, e0, ← hn]) (by rw [q6 87 _ (by omega), e87]; exact b2)
          rw [q6 81 0 (by omega), q6 87 _ (by omega), q6 98 _ (by omega), q 81 66 (by omega), e66, e0, e87, e98, ← hn, wr_of (by omega) (by omega)] at z
          rw [hMo _ (fun c k y => q c k (Or.inl y)), if_pos c, z]
          by_cases y : gi G 0 14 ≤ gi G 7 x.toNat + gi G (gp G 49 r) 6
          · rw [if_pos y, if_pos (by omega)]
          · rw [if_neg y, if_neg (by omega)]
        by_cases cw : gi G 0 14 ≤ gi G 7 x.toNat + gi G (gp G 49 r) 6
        · rw [if_pos cw] at hH
          have m := mod _ hG
          rw [if_pos cw] at m
          exact ⟨(gi G 38 6, addS G n l t d h (gi G 0 14)), (gi G 38 6, si (addT (addS G n l t d h (gi G 0 14)) n l t d h (gi G 0 14)) 128 n (-1)), (H_seize s1 k1).trans ((if_pos c).trans hH), m, rfl, seize_f1 hI' hn cc c.1 c.2.1 c.2.2.1 c.2.2.2.1 hl ht hd hh⟩
        · rw [if_neg cw] at hH
          have m := mod _ hG2
          rw [if_neg cw] at m
          exact ⟨(gi G 38 6, si (addS G n l t d h (gi G 0 14)) 44 n (gi G 0 14)), (gi G 38 6, si (addT (si (addS G n l t d h (gi G 0 14)) 44 n (gi G 0 14)) n l t d h (gi G 0 14)) 128 n (gi G 0 14)), (H_seize s1 k1).trans ((if_pos c).trans hH), m, rfl, seize_f2 hI' hn cc c.1 c.2.1 c.2.2.1 c.2.2.2.1 hl ht hd hh⟩
    · refine ⟨(-1, G), (-1, G), by rw [H_seize s1 k1, if_pos c, H_101f cc], ?_, rfl, hI'⟩
      show f_Model_seize G l t d h x = _
      rw [hMo G (fun _ _ _ => rfl), if_pos c, M_85f (by omega)]
  · refine ⟨(-1, G), (-1, G), by rw [H_seize s1 k1, if_neg c], ?_, rfl, hI'⟩
    show f_Model_seize G l t d h x = _
    rw [hMo G (fun _ _ _ => rfl), if_neg c]
