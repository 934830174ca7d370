/-! memories are told: the step -/
theorem copy68 {p n0 M : Nat} (hp : p < 32) (hM : n0 + M ≤ 24) : ∀ (t j n : Nat) (H : GS), j + t = M → t < n → gi H 81 41 = M → gi H 89 p = ((n0 + j : Nat) : Int) → ∃ H', f_Model_memories_L68 n H p j = some ((M : Int), H') ∧ (∀ c k, ¬ (c = 89 ∧ k = p) → ¬ ((131 ≤ c ∧ c ≤ 134) ∧ 24 * p + (n0 + j) ≤ k ∧ k < 24 * p + 24) → gi H' c k = gi H c k) ∧ (∀ c k, gp H' c k = gp H c k) ∧ gi H' 89 p = ((n0 + M : Nat) : Int) ∧ ∀ w, j ≤ w → w < M → gi H' 131 (24 * p + (n0 + w)) = gi H 109 w ∧ gi H' 132 (24 * p + (n0 + w)) = gi H 110 w ∧ gi H' 133 (24 * p + (n0 + w)) = gi H 111 w ∧ gi H' 134 (24 * p + (n0 + w)) = gi H 112 w := by
  intro t
  induction t with
  | zero =>
    intro j n H h1 h2 h41 h89
    obtain ⟨n', rfl⟩ : ∃ n', n = n' + 1 := ⟨n - 1, by omega⟩
    have hj : j = M := by omega
    exact ⟨H, by rw [f_Model_memories_L68, h41, if_pos (by omega)], fun _ _ _ _ => rfl, fun _ _ => rfl, by rw [h89, hj], fun w a b => by omega⟩
  | succ t ih =>
    intro j n H h1 h2 h41 h89
    obtain ⟨n', rfl⟩ : ∃ n', n = n' + 1 := ⟨n - 1, by omega⟩
    have hX : wr ((24 * (p : Int)) + ((n0 + j : Nat) : Int)) = ((24 * p + (n0 + j) : Nat) : Int) := by rw [wr_of (by omega) (by omega)]; omega
    have gp1 : (0 : Int) ≤ (p : Int) ∧ (p : Int) < 32 := by omega
    have gj : (0 : Int) ≤ (j : Int) ∧ (j : Int) < 30 := by omega
    have gX : (0 : Int) ≤ ((24 * p + (n0 + j) : Nat) : Int) ∧ ((24 * p + (n0 + j) : Nat) : Int) < 768 := by omega
    have hw1 : wr ((j : Int) + 1) = ((j + 1 : Nat) : Int) := by rw [wr_of (by omega) (by omega)]; omega
    have hwi : ∀ c k, wr (gi H c k) = gi H c k := fun c k => wr_of (gi_lo _ _ _) (gi_hi _ _ _)
    generalize hx : 24 * p + (n0 + j) = x at *
    have b1 : gi (si H 131 x (gi H 109 j)) 110 j = gi H 110 j := gi_ne (by decide)
    have b2 : gi (si (si H 131 x (gi H 109 j)) 132 x (gi H 110 j)) 111 j = gi H 111 j := by rw [gi_ne (by decide), gi_ne (by decide)]
    have b3 : gi (si (si (si H 131 x (gi H 109 j)) 132 x (gi H 110 j)) 133 x (gi H 111 j)) 112 j = gi H 112 j := by rw [gi_ne (by decide), gi_ne (by decide), gi_ne (by decide)]
    have b4 : gi (si (si (si (si H 131 x (gi H 109 j)) 132 x (gi H 110 j)) 133 x (gi H 111 j)) 134 x (gi H 112 j)) 89 p = ((n0 + j : Nat) : Int) := by rw [gi_ne (by decide), gi_ne (by decide), gi_ne (by decide), gi_ne (by decide)]; exact h89
    have e0 : f_Model_memories_L68 (n' + 1) H p j = f_Model_memories_L68 n' (si (si (si (si (si H 131 x (gi H 109 j)) 132 x (gi H 110 j)) 133 x (gi H 111 j)) 134 x (gi H 112 j)) 89 p (((n0 + j : Nat) : Int) + 1)) p ((j + 1 : Nat) : Int) := by
      rw [f_Model_memories_L68, h41, if_neg (by omega)]
      simp only [gd, if_pos gp1, if_pos gj, Int.toNat_natCast, h89, hX, if_pos gX, wG, b1, b2, b3, b4, hw1]
    have hg : ∀ c k, ¬ (c = 89 ∧ k = p) → ¬ ((131 ≤ c ∧ c ≤ 134) ∧ k = x) → gi (si (si (si (si (si H 131 x (gi H 109 j)) 132 x (gi H 110 j)) 133 x (gi H 111 j)) 134 x (gi H 112 j)) 89 p (((n0 + j : Nat) : Int) + 1)) c k = gi H c k := fun c k z1 z2 => by rw [gi_si, if_neg z1, gi_si, if_neg (by omega), gi_si, if_neg (by omega), gi_si, if_neg (by omega), gi_si, if_neg (by omega)]
    have v1 : gi (si (si (si (si (si H 131 x (gi H 109 j)) 132 x (gi H 110 j)) 133 x (gi H 111 j)) 134 x (gi H 112 j)) 89 p (((n0 + j : Nat) : Int) + 1)) 131 x = gi H 109 j := by rw [gi_ne (by decide), gi_ne (by decide), gi_ne (by decide), gi_ne (by decide), gi_sm, if_pos rfl]; exact hwi _ _
    have v2 : gi (si (si (si (si (si H 131 x (gi H 109 j)) 132 x (gi H 110 j)) 133 x (gi H 111 j)) 134 x (gi H 112 j)) 89 p (((n0 + j : Nat) : Int) + 1)) 132 x = gi H 110 j := by rw [gi_ne (by decide), gi_ne (by decide), gi_ne (by decide), gi_sm, if_pos rfl]; exact hwi _ _
    have v3 : gi (si (si (si (si (si H 131 x (gi H 109 j)) 132 x (gi H 110 j)) 133 x (gi H 111 j)) 134 x (gi H 112 j)) 89 p (((n0 + j : Nat) : Int) + 1)) 133 x = gi H 111 j := by rw [gi_ne (by decide), gi_ne (by decide), gi_sm, if_pos rfl]; exact hwi _ _
    have v4 : gi (si (si (si (si (si H 131 x (gi H 109 j)) 132 x (gi H 110 j)) 133 x (gi H 111 j)) 134 x (gi H 112 j)) 89 p (((n0 + j : Nat) : Int) + 1)) 134 x = gi H 112 j := by rw [gi_ne (by decide), gi_sm, if_pos rfl]; exact hwi _ _
    have v5 : gi (si (si (si (si (si H 131 x (gi H 109 j)) 132 x (gi H 110 j)) 133 x (gi H 111 j)) 134 x (gi H 112 j)) 89 p (((n0 + j : Nat) : Int) + 1)) 89 p = ((n0 + (j + 1) : Nat) : Int) := by rw [gi_sm, if_pos rfl, wr_of (by omega) (by omega)]; omega
    have vp : ∀ c k, gp (si (si (si (si (si H 131 x (gi H 109 j)) 132 x (gi H 110 j)) 133 x (gi H 111 j)) 134 x (gi H 112 j)) 89 p (((n0 + j : Nat) : Int) + 1)) c k = gp H c k := fun _ _ => rfl
    rw [e0]
    generalize si (si (si (si (si H 131 x (gi H 109 j)) 132 x (gi H 110 j)) 133 x (gi H 111 j)) 134 x (gi H 112 j)) 89 p (((n0 + j : Nat) : Int) + 1) = H1 at *
    obtain ⟨H', r1, r2, r3, r4, r5⟩ := ih (j + 1) n' H1 (by omega) (by omega) (by rw [hg 81 41 (by omega) (by omega)]; exact h41) v5
    refine ⟨H', r1, fun c k z1 z2 => by rw [r2 c k z1 (by omega), hg c k z1 (by omega)], fun c k => by rw [r3, vp], r4, fun w a b => ?_⟩
    by_cases z : w = j
    · rw [z, hx, r2 131 x (by omega) (by omega), r2 132 x (by omega) (by omega), r2 133 x (by omega) (by omega), r2 134 x (by omega) (by omega)]
      exact ⟨v1, v2, v3, v4⟩
    · have := r5 w (by omega) b
      rw [hg 109 w (by omega) (by omega), hg 110 w (by omega) (by omega), hg 111 w (by omega) (by omega), hg 112 w (by omega) (by omega)] at this
      exact this
def mexc (p n0 k : Nat) : Prop := (24 * p + n0 ≤ k ∧ k < 24 * p + 24) ∨ k = 768
theorem Inv_mem {G F : GS} {p n0 M : Nat} (hI : Inv G) (hp : (p : Int) < gi G 1 7) (hn0 : gi G 25 p = n0) (hF : ∀ x k, ¬ (x = 15 ∧ (k = 1 ∨ (6 ≤ k ∧ k ≤ 9))) → ¬ (18 ≤ x ∧ x ≤ 20) → ¬ ((x = 25 ∨ x = 89) ∧ k = p) → ¬ (((26 ≤ x ∧ x ≤ 28) ∨ (131 ≤ x ∧ x ≤ 134)) ∧ mexc p n0 k) → ¬ (x = 81 ∧ 41 ≤ k ∧ k ≤ 54) → ¬ (109 ≤ x ∧ x ≤ 112) → gi F x k = gi G x k) (hgp : ∀ x k, gp F x k = gp G x k) (h15 : gi F 15 1 = 0) (h43 : gi F 81 43 = 0) (h50 : gi F 81 50 = gi F 15 8) (h52 : gi F 81 52 = gi F 15 9) (h25 : gi F 25 p = ((n0 + M : Nat) : Int)) (h89 : gi F 89 p = ((n0 + M : Nat) : Int)) (hM : n0 + M ≤ 24) (hnew : ∀ j, j < M → MOKe F (24 * p + (n0 + j))) : Inv F := by
  obtain ⟨hE, hP, hL, hR, hS, hT, hMm, hJ, hK⟩ := hI
  have hs : ∀ x k, x ≠ 15 → ¬ (18 ≤ x ∧ x ≤ 20) → x ≠ 25 → x ≠ 89 → ¬ (26 ≤ x ∧ x ≤ 28) → ¬ (131 ≤ x ∧ x ≤ 134) → ¬ (x = 81 ∧ 41 ≤ k ∧ k ≤ 54) → ¬ (109 ≤ x ∧ x ≤ 112) → gi F x k = gi G x k := fun x k a1 a2 a3 a4 a5 a6 a7 a8 => hF x k (by omega) a2 (by omega) (fun z => by omega) a7 a8
  have h14 : gi F 0 14 = gi G 0 14 := hs 0 14 (by omega) (by omega) (by omega) (by omega) (by omega) (by omega) (by omega) (by omega)
  have h17 : gi F 1 7 = gi G 1 7 := hs 1 7 (by omega) (by omega) (by omega) (by omega) (by omega) (by omega) (by omega) (by omega)
  have h95 : gi F 9 5 = gi G 9 5 := hs 9 5 (by omega) (by omega) (by omega) (by omega) (by omega) (by omega) (by omega) (by omega)
  have n1 := hP.2.1
  obtain ⟨p1, p2, p3, p4, p5, p6⟩ := hP
  have hp32 : p < 32 := by omega
  refine ⟨?_, ?_, InvL_fr (by omega) h95 (fun c k q => hs _ _ (by omega) (by omega) (by omega) (by omega) (by omega) (by omega) (by omega) (by omega)) hL, InvR_fr (hs _ _ (by omega) (by omega) (by omega) (by omega) (by omega) (by omega) (by omega) (by omega)) (fun k => hs _ _ (by omega) (by omega) (by omega) (by omega) (by omega) (by omega) (by omega) (by omega)) hR, InvS_fr (by omega) (by omega) (by omega) (hs _ _ (by omega) (by omega) (by omega) (by omega) (by omega) (by omega) (by omega) (by omega)) (fun c k q => hs _ _ (by omega) (by omega) (by omega) (by omega) (by omega) (by omega) (by omega) (by omega)) hS, ⟨by omega, by omega, fun k => ?_, fun i hi => ?_⟩, ?_, InvJ_fr (by omega) (fun k => hs _ _ (by omega) (by omega) (by omega) (by omega) (by omega) (by omega) (by omega) (by omega)) (hs _ _ (by omega) (by omega) (by omega) (by omega) (by omega) (by omega) (by omega) (by omega)) (hs _ _ (by omega) (by omega) (by omega) (by omega) (by omega) (by omega) (by omega) (by omega)) (fun k => hs _ _ (by omega) (by omega) (by omega) (by omega) (by omega) (by omega) (by omega) (by omega)) (Or.inl (hs _ _ (by omega) (by omega) (by omega) (by omega) (by omega) (by omega) (by omega) (by omega))) (hs _ _ (by omega) (by omega) (by omega) (by omega) (by omega) (by omega) (by omega) (by omega)) hJ, InvK_fr hgp (fun c k q => hs _ _ (by omega) (by omega) (by omega) (by omega) (by omega) (by omega) (by omega) (by omega)) hK⟩
  · refine InvE_fr (fun q hq k => ?_) (fun q hq => ?_) hE
    · have := eqC_rng q hq
      by_cases z : q.2 = 25
      · by_cases y : k = p
        · right
          rw [z, show q.1 = 89 by omega, y, h25, h89]
        · left
          rw [z, show q.1 = 89 by omega]
          exact ⟨hF 89 k (by omega) (by omega) (by omega) (by omega) (by omega) (by omega), hF 25 k (by omega) (by omega) (by omega) (by omega) (by omega) (by omega)⟩
      · left
        exact ⟨hs _ _ (by omega) (by omega) (by omega) (by omega) (by omega) (by omega) (by omega) (by omega), hs _ _ (by omega) (by omega) (by omega) (by omega) (by omega) (by omega) (by omega) (by omega)⟩
    · simp only [eqS, List.mem_cons, List.not_mem_nil, or_false] at hq
      rcases hq with rfl | rfl | rfl | rfl | rfl | rfl | rfl | rfl
      · exact Or.inl ⟨hs 81 0 (by omega) (by omega) (by omega) (by omega) (by omega) (by omega) (by omega) (by omega), h14⟩
      · exact Or.inl ⟨hs 81 1 (by omega) (by omega) (by omega) (by omega) (by omega) (by omega) (by omega) (by omega), h17⟩
      · exact Or.inl ⟨hs 81 10 (by omega) (by omega) (by omega) (by omega) (by omega) (by omega) (by omega) (by omega), h95⟩
      · exact Or.inl ⟨hs 81 16 (by omega) (by omega) (by omega) (by omega) (by omega) (by omega) (by omega) (by omega), hs 0 12 (by omega) (by omega) (by omega) (by omega) (by omega) (by omega) (by omega) (by omega)⟩
      · exact Or.inr (h43.trans h15.symm)
      · exact Or.inr h50
      · exact Or.inr h52
      · exact Or.inl ⟨hs 81 66 (by omega) (by omega) (by omega) (by omega) (by omega) (by omega) (by omega) (by omega), hs 38 6 (by omega) (by omega) (by omega) (by omega) (by omega) (by omega) (by omega) (by omega)⟩
  · refine ⟨by omega, by omega, by omega, by omega, fun q hq => ?_, fun q hq => ?_⟩
    · have h0 := p5 q (by omega)
      have hi : ∀ c k, (2 ≤ c ∧ c ≤ 8) → gi F c k = gi G c k := fun c k z => hs _ _ (by omega) (by omega) (by omega) (by omega) (by omega) (by omega) (by omega) (by omega)
      have hq25 : 0 ≤ gi F 25 q ∧ gi F 25 q ≤ 24 := by
        by_cases z : q = p
        · rw [z, h25]; omega
        · rw [hF 25 q (by omega) (by omega) (by omega) (by omega) (by omega) (by omega)]
          exact h0.2.2.2.2.2.2
      unfold POK at h0 ⊢
      simp only [hi 2 _ (by omega), hi 3 _ (by omega), hi 4 _ (by omega), hi 5 _ (by omega), hi 6 _ (by omega), hi 7 _ (by omega), hi 8 _ (by omega), h17, h14]
      exact ⟨h0.1, h0.2.1, h0.2.2.1, h0.2.2.2.1, h0.2.2.2.2.1, h0.2.2.2.2.2.1, hq25⟩
    · rw [hF 25 q (by omega) (by omega) (by omega) (by omega) (by omega) (by omega)]
      exact p6 q (by omega)
  · have := hT.2.2.1 k
    rw [hs 16 k (by omega) (by omega) (by omega) (by omega) (by omega) (by omega) (by omega) (by omega), hs 117 k (by omega) (by omega) (by omega) (by omega) (by omega) (by omega) (by omega) (by omega)]
    exact this
  · rw [hs 17 i (by omega) (by omega) (by omega) (by omega) (by omega) (by omega) (by omega) (by omega)]
    exact hT.2.2.2 i hi
  · have h24 : ∀ k, gi F 24 k = gi G 24 k := fun k => hs 24 k (by omega) (by omega) (by omega) (by omega) (by omega) (by omega) (by omega) (by omega)
    refine ⟨fun e => by rw [h24]; exact hMm.1 e, fun q m hq hm => ?_⟩
    have old : ¬ mexc p n0 (24 * q + m) → (m : Int) < gi G 25 q → MOKe F (24 * q + m) := by
      intro hx hm0
      have h0 := hMm.2 q m (by omega) hm0
      unfold MOKe at h0 ⊢
      simp only [h24, hF 26 _ (by omega) (by omega) (by omega) (fun z => hx z.2) (by omega) (by omega), hF 27 _ (by omega) (by omega) (by omega) (fun z => hx z.2) (by omega) (by omega), hF 28 _ (by omega) (by omega) (by omega) (fun z => hx z.2) (by omega) (by omega), hF 131 _ (by omega) (by omega) (by omega) (fun z => hx z.2) (by omega) (by omega), hF 132 _ (by omega) (by omega) (by omega) (fun z => hx z.2) (by omega) (by omega), hF 133 _ (by omega) (by omega) (by omega) (fun z => hx z.2) (by omega) (by omega), hF 134 _ (by omega) (by omega) (by omega) (fun z => hx z.2) (by omega) (by omega)]
      exact h0
    by_cases z : q = p
    · rw [z] at hm ⊢
      rw [h25] at hm
      by_cases y : m < n0
      · rw [z] at old
        exact old (by unfold mexc; omega) (by omega)
      · have := hnew (m - n0) (by omega)
        rw [show n0 + (m - n0) = m by omega] at this
        exact this
    · rw [hF 25 q (by omega) (by omega) (by omega) (by omega) (by omega) (by omega)] at hm
      have h0 := (p5 q (by omega)).2.2.2.2.2.2
      exact old (by unfold mexc; omega) hm
theorem memories_out {G : GS} {a1 : Int} (hI : Inv G) (ha : ¬ (0 ≤ a1 ∧ a1 < gi G 1 7)) : ∃ (q1 : Int × GS) (q2 : Int × GS), f_Hall_memories G a1 = some q1 ∧ f_Model_memories q1.2 a1 = some q2 ∧ q1.1 = q2.1 ∧ Inv q2.2 := by
  have hI0 := hI
  obtain ⟨hE, hP, hL, hR, hS, hT, hM, hJ, hK⟩ := hI
  have eS := eqS_in hE
  have e1 : f_Hall_memories G a1 = some (-1, si G 15 1 0) := by
    rw [f_Hall_memories, has_eq, if_neg ha, Option.bind_some, if_pos rfl]; rfl
  refine ⟨(-1, si G 15 1 0), (-1, si (si G 15 1 0) 81 43 0), e1, ?_, rfl, ?_⟩
  · have h1 := hP.2.2.1
    have h2 := hP.2.2.2.1
    have e : gi (si G 15 1 0) 81 1 = gi G 1 7 := by rw [gi_ne (by decide)]; exact eS.2.1
    dsimp only
    rw [f_Model_memories, isPerson_eq (G := si G 15 1 0) a1 (by omega) (by omega), e, if_neg ha, Option.bind_some, if_pos rfl]
    rfl
  · have hg : ∀ x k, ¬ (x = 15 ∧ k = 1) → ¬ (x = 81 ∧ k = 43) → gi (si (si G 15 1 0) 81 43 0) x k = gi G x k := fun x k z1 z2 => by rw [gi_si, if_neg z2, gi_si, if_neg z1]
    refine Inv_reads hI0 (fun x k z1 z2 z3 z4 z5 => hg x k (by omega) (by omega)) ?_ ?_ ?_ ?_ ?_
    · rw [gi_ne (by decide), gi_sm, if_pos rfl]; exact wr_zero
    · rw [gi_sm, if_pos rfl]; exact wr_zero
    · rw [hg 81 50 (by omega) (by omega), hg 15 8 (by omega) (by omega)]; exact eS.2.2.2.2.2.1
    · rw [hg 81 52 (by omega) (by omega), hg 15 9 (by omega) (by omega)]; exact eS.2.2.2.2.2.2.1
    · exact InvK_fr (G := G) (fun _ _ => rfl) (fun x k z => hg x k (by omega) (by omega)) hK
theorem step_memories : Step_memories Inv := by
  intro G a1 hw hI
  by_cases ha : 0 ≤ a1 ∧ a1 < gi G 1 7
  · have hI0 := hI
    obtain ⟨hE, hP, hL, hR, hS, hT, hM, hJ, hK⟩ := hI
    have eS := eqS_in hE
    obtain ⟨p, hpa⟩ : ∃ p : Nat, a1 = p := ⟨a1.toNat, by omega⟩
    obtain ⟨u1, u2, u3, u4, u5, u6⟩ := hP
    have hp : p < 32 := by omega
    have hpc : (p : Int) < gi G 1 7 := by omega
    have hpo := (u5 p hpc).2.2.2.2.2.2
    obtain ⟨n0, hn0⟩ : ∃ n0 : Nat, gi G 25 p = n0 := ⟨(gi G 25 p).toNat, by omega⟩
    obtain ⟨G1, s1, s2, s3, s4, s5, s6, s7⟩ := begin_C hT
    have hT0 := tx_of hE hT
    have hLL : (gi G 15 1).toNat ≤ 800 := by have := hT.2.1; omega
    have hB : ∀ k, -128 ≤ TB G k ∧ TB G k ≤ 127 := hT0.2.2.2
    generalize (gi G 15 1).toNat = L at *
    generalize TB G = B at *
    generalize hq0 : rN isW B L 0 = q0 at *
    have hev0 : ∀ k, gi G 130 k = gi G 24 k := hE.1 (130, 24) (by decide)
    have h890 : gi G 89 p = gi G 25 p := hE.1 (89, 25) (by decide) p
    have hG1 : ∀ x k, ¬ (18 ≤ x ∧ x ≤ 20) → x ≠ 15 → gi G1 x k = gi G x k := fun x k z1 z2 => s3 x k z1 (by omega)
    have go : ∀ X : GS, TxM X B L → (∀ k, gi X 130 k = gi G 24 k) → gi X 89 p = n0 → ∃ H, f_Model_begins X 0 = some H ∧ Mb X H ∧ MemEnd p n0 G1 H (f_MemoryReader_read G1 p) ((f_Model_aMemory H (gi H 89 p)).bind fun q3 => f_Model_memories_L31 FU q3.2 p q3.1) := by
      intro X hX hX1 hX2
      obtain ⟨H, b1, b2, b3, b4, b5, b6⟩ := begin_M (f := 0) (Or.inl rfl) hX
      rw [hq0] at b3
      exact ⟨H, b1, b2, begM_M hp hLL hB s2 s6 b3 b5 b4 (by omega) (fun k => by rw [b2.1 130 k (by omega), hX1, hG1 24 k (by omega) (by omega)]) (by rw [b2.1 89 p (by omega)]; exact hX2) (by rw [hG1 25 p (by omega) (by omega)]; exact hn0)⟩
    have hcl : ∀ r : Int × GS, f_MemoryReader_read G1 p = some r → f_Hall_memories G a1 = some r := by
      intro r hr
      rw [f_Hall_memories, has_eq, if_pos ha, Option.bind_some, if_neg (by decide), s1, Option.bind_some, hpa, hr]
      rfl
    have hop : ∀ X : GS, gi X 81 1 = gi G 1 7 → f_Model_memories X a1 = (f_Model_begins X 0).bind fun q2 => (f_Model_aMemory q2 (gi q2 89 p)).bind fun q3 => f_Model_memories_L31 FU q3.2 p q3.1 := by
      intro X hX
      have g : ∀ x : Option (Int × GS), gd (0 ≤ (p : Int) ∧ (p : Int) < 32) x = x := fun x => by rw [gd, if_pos (by omega)]
      rw [f_Model_memories, isPerson_eq (G := X) a1 (by omega) (by omega), hX, if_pos ha, Option.bind_some, if_neg (by decide), hpa]
      simp only [g, Int.toNat_natCast]
    -- cells that the class's reading leaves
    have hkeep : ∀ G' : GS, FG p n0 G1 G' → ∀ x k, ¬ (x = 15 ∧ (k = 1 ∨ (6 ≤ k ∧ k ≤ 9))) → ¬ (18 ≤ x ∧ x ≤ 20) → ¬ ((26 ≤ x ∧ x ≤ 28) ∧ mexc p n0 k) → gi G' x k = gi G x k := fun G' hF x k z1 z2 z3 => by
      rw [hF.1 x k (by omega) (by unfold mexc at z3; omega), s3 x k z2 (by omega)]
    have hkp : ∀ G' : GS, FG p n0 G1 G' → ∀ x k, gp G' x k = gp G x k := fun G' hF x k => (hF.2 x k).trans (s4 x k)
    obtain ⟨H0, b1, b2, hend⟩ := go G hT0 hev0 (by rw [h890]; exact hn0)
    rcases hend with ⟨G', H', M, a1', a2, a3, a4, a5, a6, a7, a8, a9⟩ | ⟨G', H', k, y, a1', a2, a3, a4, a5⟩
    · -- told
      have hrd := a1'
      have hX1 : TxM (si G' 25 p ((n0 : Int) + (M : Int))) B L := hT0.fr (by rw [gi_ne (by decide)]; exact hkeep G' a3 81 43 (by omega) (by omega) (by omega)) (fun k => by rw [gi_ne (by decide)]; exact hkeep G' a3 117 k (by omega) (by omega) (by omega))
      obtain ⟨H1, c1, c2, hend⟩ := go (si G' 25 p ((n0 : Int) + (M : Int))) hX1 (fun k => by rw [gi_ne (by decide), hkeep G' a3 130 k (by omega) (by omega) (by omega)]; exact hev0 k) (by rw [gi_ne (by decide), hkeep G' a3 89 p (by omega) (by omega) (by omega), h890]; exact hn0)
      rcases hend with ⟨G2, H2, M2, d1, d2, d3, d4, d5, d6, d7, d8, d9⟩ | ⟨G2, H2, k, y, d1, d2, d3, d4, d5⟩
      · rw [hrd] at d1
        have hMM : M2 = M := by have := (Prod.mk.inj (Option.some.inj d1)).1; omega
        have hGG := (Prod.mk.inj (Option.some.inj d1)).2
        rw [hMM] at d6 d8 d9
        have hv := ends_v (H := H2) (u := gi H2 81 48) (w := -1) (wr_gi _ _ _) (by decide)
        have he1 := ends_1 H2
        have hEg : ∀ x k, ¬ (x = 81 ∧ (k = 43 ∨ k = 50 ∨ k = 52)) → gi (si (si (si H2 81 43 0) 81 50 (gi H2 81 48)) 81 52 (-1)) x k = gi H2 x k := fun x k y => ends_g y
        have hEp : ∀ x k, gp (si (si (si H2 81 43 0) 81 50 (gi H2 81 48)) 81 52 (-1)) x k = gp H2 x k := fun _ _ => rfl
        generalize si (si (si H2 81 43 0) 81 50 (gi H2 81 48)) 81 52 (-1) = E at *
        have hH2 : ∀ x k, ¬ (x = 81 ∧ 41 ≤ k ∧ k ≤ 54) → ¬ (109 ≤ x ∧ x ≤ 112) → gi H2 x k = gi (si G' 25 p ((n0 : Int) + (M : Int))) x k := fun x k z1 z2 => by rw [d4.1 x k (by omega) z2, c2.1 x k (by omega)]
        have h89E : gi E 89 p = ((n0 + 0 : Nat) : Int) := by
          rw [hEg 89 p (by omega), hH2 89 p (by omega) (by omega), gi_ne (by decide), hkeep G' a3 89 p (by omega) (by omega) (by omega), h890]; exact hn0
        obtain ⟨F, t1, t2, t3, t4, t5⟩ := copy68 hp a9 M 0 FU E (by omega) (by unfold FU; omega) (by rw [hEg 81 41 (by omega)]; exact d6) h89E
        refine ⟨((M : Int), si G' 25 p ((n0 : Int) + (M : Int))), ((M : Int), F), hcl _ hrd, ?_, rfl, ?_⟩
        · dsimp only
          rw [hop (si G' 25 p ((n0 : Int) + (M : Int))) (by rw [gi_ne (by decide), hkeep G' a3 81 1 (by omega) (by omega) (by omega)]; exact eS.2.1), c1, Option.bind_some, d2, f_Model_memories_L56, he1, Option.bind_some, if_neg (n10 E)]
          exact t1
        · have hFx : ∀ x k, ¬ (x = 89 ∧ k = p) → ¬ ((131 ≤ x ∧ x ≤ 134) ∧ mexc p n0 k) → ¬ (x = 81 ∧ 41 ≤ k ∧ k ≤ 54) → ¬ (109 ≤ x ∧ x ≤ 112) → gi F x k = gi (si G' 25 p ((n0 : Int) + (M : Int))) x k := fun x k z1 z2 z3 z4 => by
            rw [t2 x k z1 (by unfold mexc at z2; omega), hEg x k (by omega), hH2 x k z3 z4]
          have g25 : gi (si G' 25 p ((n0 : Int) + (M : Int))) 25 p = ((n0 + M : Nat) : Int) := by rw [gi_sm, if_pos rfl, wr_of (by omega) (by omega)]; omega
          have g15 : ∀ k, gi F 15 k = gi G' 15 k := fun k => by rw [hFx 15 k (by omega) (by omega) (by omega) (by omega), gi_ne (by decide)]
          have g9 : gi G' 15 9 = -1 := by rw [a3.1 15 9 (by omega) (by omega)]; exact s7
          refine Inv_mem (M := M) hI0 hpc hn0 (fun x k z1 z2 z3 z4 z5 z6 => ?_) (fun x k => ?_) ?_ ?_ ?_ ?_ ?_ t4 a9 (fun j hj => ?_)
          · rw [hFx x k (by omega) (fun w => z4 ⟨Or.inr w.1, w.2⟩) z5 z6, gi_si, if_neg (by omega), hkeep G' a3 x k z1 z2 (fun w => z4 ⟨Or.inl w.1, w.2⟩)]
          · rw [t3, hEp, d4.2, c2.2]
            exact hkp G' a3 x k
          · rw [g15, a3.1 15 1 (by omega) (by omega)]; exact s5
          · rw [t2 81 43 (by omega) (by omega)]; exact hv.1
          · rw [t2 81 50 (by omega) (by omega), hv.2.1, g15, a5]; exact d7
          · rw [t2 81 52 (by omega) (by omega), hv.2.2, g15, g9]
          · rw [hFx 25 p (by omega) (by omega) (by omega) (by omega)]; exact g25
          · have h5 := t5 j (by omega) hj
            obtain ⟨e1, e2⟩ := d8 j hj
            have hcell : ∀ x, 26 ≤ x → x ≤ 28 → ∀ k, gi F x k = gi G2 x k := fun x z1 z2 k => by
              rw [hFx x k (by omega) (by omega) (by omega) (by omega), hGG, gi_ne (by omega)]
            have h24 : ∀ k, gi F 24 k = gi G2 24 k := fun k => by rw [hFx 24 k (by omega) (by omega) (by omega) (by omega), hGG, gi_ne (by decide)]
            rw [hEg 109 j (by omega), hEg 110 j (by omega), hEg 111 j (by omega), hEg 112 j (by omega)] at h5
            obtain ⟨f1, f2, f3, f4, f5⟩ := e2
            unfold MOKe
            rw [hcell 26 (by omega) (by omega), hcell 27 (by omega) (by omega), hcell 28 (by omega) (by omega), h24, h5.1, h5.2.1, h5.2.2.1, h5.2.2.2, e1]
            exact ⟨f1.1, f1.2, rfl, f2, f3.1, f3.2, f4.1, f4.2, f5⟩
      · rw [hrd] at d1
        have := (Prod.mk.inj (Option.some.inj d1)).1
        omega
    · -- a fault
      have hrd := a1'
      have hX1 : TxM G' B L := hT0.fr (hkeep G' a3 81 43 (by omega) (by omega) (by omega)) (fun k => hkeep G' a3 117 k (by omega) (by omega) (by omega))
      obtain ⟨H1, c1, c2, hend⟩ := go G' hX1 (fun k => by rw [hkeep G' a3 130 k (by omega) (by omega) (by omega)]; exact hev0 k) (by rw [hkeep G' a3 89 p (by omega) (by omega) (by omega), h890]; exact hn0)
      rcases hend with ⟨G2, H2, M2, d1, d2, d3, d4, d5⟩ | ⟨G2, H2, k2, y2, d1, d2, d3, d4, d5, d6, d7, d8, d9⟩
      · rw [hrd] at d1
        have := (Prod.mk.inj (Option.some.inj d1)).1
        omega
      · rw [hrd] at d1
        have hGG := (Prod.mk.inj (Option.some.inj d1)).2
        rw [← hGG] at d5 d6
        have hv := ends_v (H := H2) (u := gi H2 81 48) (w := gi H2 81 49) (wr_gi _ _ _) (wr_gi _ _ _)
        have he0 := ends_0 H2
        have hEg : ∀ x k, ¬ (x = 81 ∧ (k = 43 ∨ k = 50 ∨ k = 52)) → gi (si (si (si H2 81 43 0) 81 50 (gi H2 81 48)) 81 52 (gi H2 81 49)) x k = gi H2 x k := fun x k y => ends_g y
        have hEp : ∀ x k, gp (si (si (si H2 81 43 0) 81 50 (gi H2 81 48)) 81 52 (gi H2 81 49)) x k = gp H2 x k := fun _ _ => rfl
        generalize si (si (si H2 81 43 0) 81 50 (gi H2 81 48)) 81 52 (gi H2 81 49) = F at *
        have hFx : ∀ x k, ¬ (x = 81 ∧ 41 ≤ k ∧ k ≤ 54) → ¬ (109 ≤ x ∧ x ≤ 112) → gi F x k = gi G' x k := fun x k z1 z2 => by rw [hEg x k (by omega), d4.1 x k (by omega) z2, c2.1 x k (by omega)]
        refine ⟨(-1, G'), (-1, F), hcl _ hrd, ?_, rfl, ?_⟩
        · dsimp only
          rw [hop G' (by rw [hkeep G' a3 81 1 (by omega) (by omega) (by omega)]; exact eS.2.1), c1, Option.bind_some, d2, f_Model_memories_L56, he0]
          rfl
        · refine Inv_mem (M := 0) hI0 hpc hn0 (fun x k z1 z2 z3 z4 z5 z6 => ?_) (fun x k => ?_) ?_ ?_ ?_ ?_ ?_ ?_ (by omega) (fun j hj => by omega)
          · rw [hFx x k z5 z6, hkeep G' a3 x k z1 z2 (fun w => z4 ⟨Or.inl w.1, w.2⟩)]
          · rw [hEp, d4.2, c2.2]
            exact hkp G' a3 x k
          · rw [hFx 15 1 (by omega) (by omega), a3.1 15 1 (by omega) (by omega)]; exact s5
          · exact hv.1
          · rw [hv.2.1, hFx 15 8 (by omega) (by omega), d5, d7]
          · rw [hv.2.2, hFx 15 9 (by omega) (by omega), d6, d8]
          · rw [hFx 25 p (by omega) (by omega), hkeep G' a3 25 p (by omega) (by omega) (by omega)]; exact hn0
          · rw [hFx 89 p (by omega) (by omega), hkeep G' a3 89 p (by omega) (by omega) (by omega), h890]; exact hn0
  · exact memories_out hI ha
