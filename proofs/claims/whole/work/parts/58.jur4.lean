/-! juries: the steps of quarrel and chain -/
theorem mFew_L {N : Nat} (hN : N ≤ 12) {w : Nat → Int} (hW : WOK w) (hWN : ∀ j l, j < 10 → N ≤ l → l < 12 → w (12 * j + l) = -2) : ∀ (n : Nat) (G : GS) (x1 : Int) (d : Nat), d ≤ 1023 → 1024 - d < n → gi G 81 10 = N → (∀ k, gi G 135 k = w k) → x1 = (if fewN w d = 1023 then -1 else (fewN w d : Int)) → ∃ G1, f_Model_fewest_L16 n G x1 d = some ((fewW w : Int), G1) ∧ (∀ c k, c ≠ 136 → ¬ (c = 81 ∧ (k = 85 ∨ k = 86)) → gi G1 c k = gi G c k) ∧ (∀ c k, gp G1 c k = gp G c k) ∧ gi G1 81 85 = 1 ∧ gi G1 81 86 = fewW w := by
  intro n
  induction n with
  | zero => intro G x1 d q1 q2; omega
  | succ n ih =>
    intro G x1 d q1 q2 hn hw hx
    have c1 : ¬ (1024 : Int) ≤ d := by omega
    have hwd : wr ((d : Int) + 1) = ((d + 1 : Nat) : Int) := by rw [wr_of (by omega) (by omega)]; omega
    obtain ⟨r, G1, r1, r2, r3, r4, r5, -⟩ := quar_eq (D := d) (by omega) hN hW hWN hn hw
    have hlt := fewN_lt2 w d q1
    have hlt2 := fewN_lt w d q1
    have p0 := pop_0 d (by omega)
    have t1023 : pop10 1023 = 10 := by decide
    -- the end
    have fin : ∀ (G' : GS) (x : Int) (m : Nat), 1 ≤ m → x = fewW w → gi G' 81 10 = N → ∃ G2, f_Model_fewest_L16 m G' x ((1023 + 1 : Nat) : Int) = some ((fewW w : Int), G2) ∧ (∀ c k, c ≠ 136 → ¬ (c = 81 ∧ (k = 85 ∨ k = 86)) → gi G2 c k = gi G' c k) ∧ (∀ c k, gp G2 c k = gp G' c k) ∧ gi G2 81 85 = 1 ∧ gi G2 81 86 = fewW w := by
      intro G' x m hm hx' _
      have hfl : fewW w < 1024 := by rw [fewN_W]; exact fewN_lt2 w 1023 (by decide)
      obtain ⟨m', rfl⟩ : ∃ m', m = m' + 1 := ⟨m - 1, by omega⟩
      refine ⟨si (si G' 81 85 1) 81 86 x, ?_, fun c k a b => ?_, fun _ _ => rfl, ?_, ?_⟩
      · rw [← hx']
        simp only [f_Model_fewest_L16, if_pos (show (1024 : Int) ≤ ((1023 + 1 : Nat) : Int) by omega), wG]
      · rw [gi_si, if_neg (by omega), gi_si, if_neg (by omega)]
      · rw [gi_si, if_neg (by omega), gi_si, if_pos ⟨rfl, rfl⟩]; exact wr_of (by decide) (by decide)
      · rw [gi_si, if_pos ⟨rfl, rfl⟩, hx']; exact wr_of (by omega) (by omega)
    -- one more looked at
    have key : pop10 d < pop10 (fewN w d) ∨ d = 1023 ∧ fewN w d = 1023 → f_Model_fewest_L16 (n + 1) G x1 d = f_Model_fewest_L39 (f_Model_fewest_L16 n) G x1 d → ∃ G1, f_Model_fewest_L16 (n + 1) G x1 d = some ((fewW w : Int), G1) ∧ (∀ c k, c ≠ 136 → ¬ (c = 81 ∧ (k = 85 ∨ k = 86)) → gi G1 c k = gi G c k) ∧ (∀ c k, gp G1 c k = gp G c k) ∧ gi G1 81 85 = 1 ∧ gi G1 81 86 = fewW w := by
      intro hpop e
      have hn1 : gi G1 81 10 = N := by rw [r3 81 10 (by decide)]; exact hn
      by_cases hp : peaceW w d
      · have r0 := r5.mpr hp
        subst r0
        have e2 : f_Model_fewest_L39 (f_Model_fewest_L16 n) G x1 d = f_Model_fewest_L16 n G1 d ((d + 1 : Nat) : Int) := by
          simp only [f_Model_fewest_L39, r1, Option.bind_some, if_true, f_Model_fewest_L49, hwd]
        by_cases hd : d = 1023
        · subst hd
          have hf : fewW w = 1023 := by
            rw [fewN_W]
            rcases hpop with z | z
            · rcases hlt2 with y | y
              · exact y
              · have := (pop_0 (fewN w 1023) hlt).2.2 y.1; omega
            · exact z.2
          obtain ⟨G2, u1, u2, u3, u4⟩ := fin G1 1023 n (by omega) (by omega) hn1
          exact ⟨G2, e.trans (e2.trans u1), fun c k a b => by rw [u2 c k a b, r3 c k a], fun c k => by rw [u3, r4], u4⟩
        · have hpp : pop10 d < pop10 (fewN w d) := by
            rcases hpop with z | z
            · exact z
            · exact absurd z.1 hd
          obtain ⟨G2, u1, u2, u3, u4⟩ := ih G1 d (d + 1) (by omega) (by omega) hn1 (fun k => by rw [r3 135 k (by decide)]; exact hw k) (by rw [fewN_y ⟨hpp, hp⟩, if_neg hd])
          exact ⟨G2, e.trans (e2.trans u1), fun c k a b => by rw [u2 c k a b, r3 c k a], fun c k => by rw [u3, r4], u4⟩
      · have r0 : r = 1 := by
          rcases r2 with z | z
          · exact absurd (r5.mp z) hp
          · exact z
        subst r0
        have hd : d ≠ 1023 := fun z => hp (z ▸ peace1023 w)
        have e2 : f_Model_fewest_L39 (f_Model_fewest_L16 n) G x1 d = f_Model_fewest_L16 n G1 x1 ((d + 1 : Nat) : Int) := by
          simp only [f_Model_fewest_L39, r1, Option.bind_some, if_neg (show ¬ (1 : Int) = 0 by decide), f_Model_fewest_L49, hwd]
        obtain ⟨G2, u1, u2, u3, u4⟩ := ih G1 x1 (d + 1) (by omega) (by omega) hn1 (fun k => by rw [r3 135 k (by decide)]; exact hw k) (by rw [fewN_n (fun q => hp q.2)]; exact hx)
        exact ⟨G2, e.trans (e2.trans u1), fun c k a b => by rw [u2 c k a b, r3 c k a], fun c k => by rw [u3, r4], u4⟩
    by_cases c2 : fewN w d = 1023
    · rw [if_pos c2] at hx
      refine key ?_ (by simp only [f_Model_fewest_L16, if_neg c1, if_pos hx])
      by_cases hd : d = 1023
      · exact Or.inr ⟨hd, c2⟩
      · left; rw [c2, t1023]; exact p0.2.2 (by omega)
    · rw [if_neg c2] at hx
      have hx1 : ¬ x1 = -1 := by omega
      have b1 := bits_eq G (d := d) (by omega)
      have b2 := bits_eq G hlt
      by_cases c3 : (pop10 (fewN w d) : Int) ≤ pop10 d
      · have e : f_Model_fewest_L16 (n + 1) G x1 d = f_Model_fewest_L16 n G x1 ((d + 1 : Nat) : Int) := by
          simp only [f_Model_fewest_L16, if_neg c1, if_neg hx1, b1, Option.bind_some]
          rw [hx, b2]
          simp only [Option.bind_some, if_pos c3, f_Model_fewest_L49, hwd]
        rw [e]
        by_cases hd : d = 1023
        · subst hd
          exact fin G x1 n (by omega) (by rw [hx, fewN_W]) hn
        · exact ih G x1 (d + 1) (by omega) (by omega) hn hw (by rw [fewN_n (fun q => by omega), if_neg c2]; exact hx)
      · refine key (Or.inl (by omega)) ?_
        simp only [f_Model_fewest_L16, if_neg c1, if_neg hx1, b1, Option.bind_some]
        rw [hx, b2]
        simp only [Option.bind_some, if_neg c3]
theorem mFew_eq {N : Nat} (hN : N ≤ 12) {w : Nat → Int} (hW : WOK w) (hWN : ∀ j l, j < 10 → N ≤ l → l < 12 → w (12 * j + l) = -2) {G : GS} (hn : gi G 81 10 = N) (hw : ∀ k, gi G 135 k = w k) (h1 : gi G 81 85 = 0 ∨ gi G 81 85 = 1) (h2 : gi G 81 85 = 1 → gi G 81 86 = fewW w) : ∃ G1, f_Model_fewest G = some ((fewW w : Int), G1) ∧ (∀ c k, c ≠ 136 → ¬ (c = 81 ∧ (k = 85 ∨ k = 86)) → gi G1 c k = gi G c k) ∧ (∀ c k, gp G1 c k = gp G c k) ∧ gi G1 81 85 = 1 ∧ gi G1 81 86 = fewW w := by
  by_cases c : gi G 81 85 = 0
  · obtain ⟨G1, r⟩ := mFew_L hN hW hWN FU G (-1) 0 (by omega) (by unfold FU; omega) hn hw rfl
    exact ⟨G1, by simp only [f_Model_fewest, if_pos c]; exact r.1, r.2⟩
  · have h2' := h2 (by omega)
    exact ⟨G, by simp only [f_Model_fewest, if_neg c, h2'], fun _ _ _ _ => rfl, fun _ _ => rfl, by omega, h2'⟩
theorem Inv_jur {G G' : GS} (hi : ∀ c k, ¬ (scr c k ∨ c = 48 ∨ (c = 45 ∧ (k = 3 ∨ k = 4)) ∨ (c = 81 ∧ (k = 85 ∨ k = 86))) → gi G' c k = gi G c k) (hp : ∀ c k, gp G' c k = gp G c k) (hw : WgOK G' (wOf G)) (hm : (gi G' 81 85 = 0 ∨ gi G' 81 85 = 1) ∧ (gi G' 81 85 = 1 → gi G' 81 86 = fewW (wOf G))) (h : Inv G) : Inv G' := by
  obtain ⟨hE, hP, hL, hR, hS, hT, hM, hJ, hK⟩ := h
  have h14 := hi 0 14 (by unfold scr; omega)
  have h17 := hi 1 7 (by unfold scr; omega)
  have h95 := hi 9 5 (by unfold scr; omega)
  have n1 := hP.2.1
  have e46 : wOf G' = wOf G := funext fun k => hi 46 k (by unfold scr; omega)
  refine ⟨InvE_fr (fun q hq k => ?_) (fun q hq => ?_) hE, InvP_fr (by omega) (by omega) h17 (fun c k q => hi _ _ (by unfold scr; omega)) hP, InvL_fr (by omega) h95 (fun c k q => hi _ _ (by unfold scr; omega)) hL, InvR_fr (hi _ _ (by unfold scr; omega)) (fun k => hi _ _ (by unfold scr; omega)) hR, InvS_fr (by omega) (by omega) (by omega) (hi _ _ (by unfold scr; omega)) (fun c k q => hi _ _ (by unfold scr; omega)) hS, InvT_fr (hi _ _ (by unfold scr; omega)) (fun c k q => hi _ _ (by unfold scr; omega)) hT, InvM_fr h17 (fun k => hi _ _ (by unfold scr; omega)) (fun c k q => hi _ _ (by unfold scr; omega)) hM, ⟨fun j l hj hl => ?_, Or.inr hw.2.1, hm.1, fun _ => ?_, fun q => ?_⟩, InvK_fr hp (fun c k q => hi _ _ (by unfold scr; omega)) hK⟩
  · have := eqC_rng q hq
    left
    exact ⟨hi _ _ (by unfold scr; omega), hi _ _ (by unfold scr; omega)⟩
  · simp only [eqS, List.mem_cons, List.not_mem_nil, or_false] at hq
    rcases hq with rfl | rfl | rfl | rfl | rfl | rfl | rfl | rfl <;> exact Or.inl ⟨hi _ _ (by unfold scr; dsimp only; omega), hi _ _ (by unfold scr; dsimp only; omega)⟩
  · rw [h95, hi 46 _ (by unfold scr; omega)]; exact hJ.1 j l hj hl
  · rw [e46]; exact ⟨hw.1, hw.2.2⟩
  · rw [e46]; exact hm.2 q
/-- what both steps need -/
theorem jur_in {G : GS} (hI : Inv G) : ∃ N : Nat, N ≤ 12 ∧ gi G 9 5 = N ∧ gi G 81 10 = N ∧ WOK (wOf G) ∧ (∀ j l, j < 10 → N ≤ l → l < 12 → wOf G (12 * j + l) = -2) ∧ (∀ k, gi G 135 k = wOf G k) ∧ ∃ G1, f_Juries_weigh G = some G1 ∧ (∀ c k, c ≠ 48 → c ≠ 47 → ¬ (c = 45 ∧ (k = 3 ∨ k = 4)) → gi G1 c k = gi G c k) ∧ (∀ c k, gp G1 c k = gp G c k) ∧ WgOK G1 (wOf G) := by
  obtain ⟨hE, hP, hL, hR, hS, hT, hM, hJ, hK⟩ := hI
  have l0 := hL.1
  have l1 := hL.2.1
  have e10 := (eqS_in hE).2.2.1
  have hW : WOK (wOf G) := fun j l hj hl => by
    have := hJ.1 j l hj hl
    show gi G 46 (12 * j + l) = -2 ∨ (-1 ≤ gi G 46 (12 * j + l) ∧ gi G 46 (12 * j + l) < 12)
    omega
  refine ⟨(gi G 9 5).toNat, by omega, by omega, by omega, hW, fun j l hj hl hl2 => ?_, hE.1 (135, 46) (by decide), weigh_eq hW (fun k => rfl) hJ.2.1 (fun q => ?_)⟩
  · have := hJ.1 j l hj hl2
    show gi G 46 (12 * j + l) = -2
    omega
  · exact ⟨(hJ.2.2.2.1 q).1, q, (hJ.2.2.2.1 q).2⟩
theorem step_quarrel : Step_quarrel Inv := by
  intro G a ha hI
  obtain ⟨N, hN, n5, n10, hW, hWN, h135, G1, r1, r2, r3, r4⟩ := jur_in hI
  have hJ := hI.2.2.2.2.2.2.2.1
  have hm85 : gi G1 81 85 = gi G 81 85 := r2 81 85 (by decide) (by decide) (by omega)
  have hm86 : gi G1 81 86 = gi G 81 86 := r2 81 86 (by decide) (by decide) (by omega)
  have hfl : fewW (wOf G) < 1024 := by rw [fewN_W]; exact fewN_lt2 _ 1023 (by decide)
  have hn1 : gi G1 81 10 = N := by rw [r2 81 10 (by decide) (by decide) (by omega)]; exact n10
  have hw1 : ∀ k, gi G1 135 k = wOf G k := fun k => by rw [r2 135 k (by decide) (by decide) (by omega)]; exact h135 k
  have inv1 : ∀ G2 : GS, (∀ c k, c ≠ 136 → ¬ (c = 81 ∧ (k = 85 ∨ k = 86)) → gi G2 c k = gi G1 c k) → (∀ c k, gp G2 c k = gp G1 c k) → ((gi G2 81 85 = 0 ∨ gi G2 81 85 = 1) ∧ (gi G2 81 85 = 1 → gi G2 81 86 = fewW (wOf G))) → Inv G2 := fun G2 q1 q2 q3 => by
    refine Inv_jur (fun c k q => ?_) (fun c k => (q2 c k).trans (r3 c k)) ⟨?_, ?_, fun l hl => ?_⟩ q3 hI
    · unfold scr at q
      rw [q1 c k (by omega) (by omega), r2 c k (by omega) (by omega) (by omega)]
    · rw [q1 45 3 (by decide) (by omega)]; exact r4.1
    · rw [q1 45 4 (by decide) (by omega)]; exact r4.2.1
    · rw [q1 48 l (by decide) (by omega)]; exact r4.2.2 l hl
  have b1 := bitc_eq G1 hfl
  by_cases c0 : a = 0
  · subst c0
    obtain ⟨r, G2, u1, u2, u3, u4, u5, -⟩ := quar_eq (D := 0) (by decide) hN hW hWN hn1 hw1
    rw [show ((0 : Nat) : Int) = 0 from rfl] at u1
    have hz : r = 0 ↔ fewW (wOf G) = 0 := by
      rw [u5]
      constructor
      · intro hp
        have := fewN_min (wOf G) 1023 0 (by decide) hp
        rw [← fewN_W, show pop10 0 = 0 by decide] at this
        exact (pop_0 _ hfl).1.mp (by omega)
      · intro hp
        have := fewW_peace (wOf G)
        rw [hp] at this
        exact this
    refine ⟨(min 1 (pop10 (fewW (wOf G)) : Int), G1), (r, G2), ?_, ?_, ?_, ?_⟩
    · simp only [f_Hall_quarrel, if_neg (show ¬ (0 : Int) < 0 by decide), if_pos (show (0 : Int) ≤ 2 by decide), r1, Option.bind_some, if_neg (show ¬ (0 : Int) = 1 by decide), r4.1, b1, if_neg (show ¬ (0 : Int) = 2 by decide)]
    · show f_Model_quarrel G1 0 = _
      simp only [f_Model_quarrel, if_true, u1, Option.bind_some]
      rcases u2 with z | z
      · rw [z]; rfl
      · rw [z]; rfl
    · show min 1 (pop10 (fewW (wOf G)) : Int) = r
      have hq := (pop_0 _ hfl).1
      rcases u2 with z | z
      · have e := hq.mpr (hz.mp z)
        rw [e, z]; rfl
      · have e : ¬ pop10 (fewW (wOf G)) = 0 := fun y => by
          have e2 := hz.mpr (hq.mp y)
          rw [z] at e2; cases e2
        rw [z]
        clear hq hz
        generalize pop10 (fewW (wOf G)) = P at e
        omega
    · exact inv1 G2 (fun c k q _ => u3 c k q) u4 ⟨by rw [u3 81 85 (by decide), hm85]; exact hJ.2.2.1, fun q => by
        rw [u3 81 85 (by decide), hm85] at q
        rw [u3 81 86 (by decide), hm86]; exact hJ.2.2.2.2 q⟩
  · obtain ⟨G2, u1, u2, u3, u4, u5⟩ := mFew_eq hN hW hWN hn1 hw1 (by rw [hm85]; exact hJ.2.2.1) (by rw [hm85, hm86]; exact hJ.2.2.2.2)
    have hI2 : Inv G2 := inv1 G2 u2 u3 ⟨Or.inr u4, fun _ => u5⟩
    by_cases c1 : a = 1
    · subst c1
      refine ⟨((fewW (wOf G) : Int), G1), ((fewW (wOf G) : Int), G2), ?_, ?_, rfl, hI2⟩
      · simp only [f_Hall_quarrel, if_neg (show ¬ (1 : Int) < 0 by decide), if_pos (show (1 : Int) ≤ 2 by decide), r1, Option.bind_some, if_true, r4.1]
      · show f_Model_quarrel G1 1 = _
        simp only [f_Model_quarrel, if_neg (show ¬ (1 : Int) = 0 by decide), if_true, u1, Option.bind_some]
    · by_cases c2 : a = 2
      · subst c2
        have b2 := bits_eq G2 hfl
        refine ⟨((pop10 (fewW (wOf G)) : Int), G1), ((pop10 (fewW (wOf G)) : Int), G2), ?_, ?_, rfl, hI2⟩
        · simp only [f_Hall_quarrel, if_neg (show ¬ (2 : Int) < 0 by decide), if_pos (show (2 : Int) ≤ 2 by decide), r1, Option.bind_some, if_neg (show ¬ (2 : Int) = 1 by decide), r4.1, b1, if_true]
        · show f_Model_quarrel G1 2 = _
          simp only [f_Model_quarrel, if_neg (show ¬ (2 : Int) = 0 by decide), if_neg (show ¬ (2 : Int) = 1 by decide), if_true, u1, Option.bind_some, b2]
      · refine ⟨(-1, G), (-1, G), ?_, ?_, rfl, hI⟩
        · unfold f_Hall_quarrel
          by_cases z : a < 0
          · rw [if_pos z]
          · rw [if_neg z, if_neg (by omega)]
        · show f_Model_quarrel G a = _
          unfold f_Model_quarrel
          rw [if_neg c0, if_neg c1, if_neg c2]
theorem ch35 {G : GS} {h : Nat → Int} (hh : ∀ i, i < 12 → gi G 136 i = h i) (hr : ∀ i, i < 12 → h i = -2 ∨ (-1 ≤ h i ∧ h i < 12)) {x2 : Int} : ∀ (n : Nat) (m : Int) (k s : Nat), k + s ≤ 100 → (m = -2 ∨ (-1 ≤ m ∧ m < 12)) → upW h s m < 0 ∨ (s : Int) + k = x2 + 1 → (s : Int) + k ≤ x2 + 1 → s < n → f_Model_chain_L35 n G x2 m k = some (cv (upW h s m), G) := by
  intro n
  induction n with
  | zero => intro m k s q0 q1 q2 q3 q4; omega
  | succ n ih =>
    intro m k s q0 q1 q2 q3 q4
    have fin : ∀ v : Int, (v = -2 ∨ -1 ≤ v) → f_Model_chain_L58 G v = some (cv v, G) := fun v hv => by
      unfold f_Model_chain_L58 cv
      by_cases z : 0 ≤ v
      · rw [if_pos z, if_neg (by omega)]
      · rw [if_neg z]
        split <;> simp <;> omega
    by_cases c1 : x2 < (k : Int)
    · have : s = 0 := by omega
      subst this
      simp only [f_Model_chain_L35, if_pos c1]
      exact fin m (by omega)
    · by_cases c2 : m < 0
      · simp only [f_Model_chain_L35, if_neg c1, if_pos c2]
        rw [upW_neg c2]
        exact fin m (by omega)
      · obtain ⟨s', rfl⟩ : ∃ s', s = s' + 1 := by
          cases s with
          | zero =>
            rcases q2 with z | z
            · exact absurd (show m < 0 from z) c2
            · omega
          | succ s' => exact ⟨s', rfl⟩
        have hw : wr ((k : Int) + 1) = ((k + 1 : Nat) : Int) := by rw [wr_of (by omega) (by omega)]; omega
        rw [upW_pos (by omega)] at q2 ⊢
        simp only [f_Model_chain_L35, if_neg c1, if_neg c2, gd, if_pos (show 0 ≤ m ∧ m < 12 by omega), hh _ (show m.toNat < 12 by omega), hw]
        exact ih _ (k + 1) s' (by omega) (hr _ (by omega)) (by omega) (by omega) (by omega)
theorem chain_ans {G1 G3 : GS} {h : Nat → Int} (h48 : ∀ l, l < 12 → gi G1 48 l = cv (h l)) (h136 : ∀ l, l < 12 → gi G3 136 l = h l) (hr : ∀ j, j < 12 → h j = -2 ∨ (-1 ≤ h j ∧ h j < 12)) {l : Nat} (hl : l < 12) (hz : upW h 12 (l : Int) < 0) {i : Int} (hi : 0 ≤ i) : ∃ v, f_Juries_above G1 l i = some v ∧ f_Model_chain_L35 FU G3 i l 0 = some (v, G3) := by
  obtain ⟨s, hs⟩ : ∃ s : Nat, (s : Int) = if i ≤ 12 then i else 12 := ⟨(if i ≤ 12 then i else 12).toNat, by split <;> omega⟩
  refine ⟨_, above_eq h48 hr hl hs, ch35 h136 hr FU (l : Int) 0 (s + 1) (by split at hs <;> omega) (by omega) (by
      by_cases z : i ≤ 12
      · right; rw [if_pos z] at hs; omega
      · left
        rw [if_neg z] at hs
        have : s = 12 := by omega
        rw [this, upW_add _ 12 1, upW_neg hz]; exact hz) (by split at hs <;> omega) (by unfold FU; split at hs <;> omega)⟩
theorem held_rng {w : Nat → Int} (hW : WOK w) (d : Nat) : ∀ j, j < 12 → heldW w d j = -2 ∨ (-1 ≤ heldW w d j ∧ heldW w d j < 12) := fun j hj => by
  rw [hF_W]; exact hF_rng hW hj 10 (by omega)
theorem mch_eq {G1 G2 G3 : GS} {F l : Nat} {i v : Int} (h1 : f_Model_isLand G1 l = some 1) (hi : 0 ≤ i) (u1 : f_Model_fewest G1 = some ((F : Int), G2)) (t1 : f_Model_isQuarrel G2 F = some (0, G3)) (hB : f_Model_chain_L35 FU G3 i l 0 = some (v, G3)) : f_Model_chain G1 l i = some (v, G3) := by
  simp only [f_Model_chain, h1, Option.bind_some, if_neg (show ¬ (1 : Int) = 0 by decide), if_pos hi, u1, t1, if_true, f_Model_chain_L31]
  exact hB
theorem step_chain : Step_chain Inv := by
  intro G l i hl hi hI
  obtain ⟨N, hN, n5, n10, hW, hWN, h135, G1, r1, r2, r3, r4⟩ := jur_in hI
  have hJ := hI.2.2.2.2.2.2.2.1
  have hL := hI.2.2.1
  have hfl : True → fewW (wOf G) < 1024 := fun _ => by rw [fewN_W]; exact fewN_lt2 _ 1023 (by decide)
  by_cases c : (0 ≤ l ∧ l < gi G 9 5) ∧ 0 ≤ i
  · have hm85 : gi G1 81 85 = gi G 81 85 := r2 81 85 (by decide) (by decide) (by omega)
    have hm86 : gi G1 81 86 = gi G 81 86 := r2 81 86 (by decide) (by decide) (by omega)
    have hn1 : gi G1 81 10 = N := by rw [r2 81 10 (by decide) (by decide) (by omega)]; exact n10
    have hw1 : ∀ k, gi G1 135 k = wOf G k := fun k => by rw [r2 135 k (by decide) (by decide) (by omega)]; exact h135 k
    obtain ⟨G2, u1, u2, u3, u4, u5⟩ := mFew_eq hN hW hWN hn1 hw1 (by rw [hm85]; exact hJ.2.2.1) (by rw [hm85, hm86]; exact hJ.2.2.2.2)
    have u5' : True → gi G2 81 86 = fewW (wOf G) := fun _ => u5
    clear u5
    obtain ⟨r, G3, t1, t2, t3, t4, t5, t6⟩ := quar_eq (D := fewW (wOf G)) (hfl trivial) hN hW hWN (G := G2) (by rw [u2 81 10 (by decide) (by omega)]; exact hn1) (fun k => by rw [u2 135 k (by decide) (by omega)]; exact hw1 k)
    have hp := fewW_peace (wOf G)
    have r0 := t5.mpr hp
    subst r0
    have hh3 := t6 rfl
    obtain ⟨lN, rfl⟩ : ∃ k : Nat, l = k := ⟨l.toNat, by omega⟩
    have hl12 : lN < 12 := by omega
    obtain ⟨v, hA, hB⟩ := chain_ans r4.2.2 hh3 (held_rng hW _) hl12 ((peace_iff.mp hp).2 lN hl12) c.2
    refine ⟨(v, G1), (v, G3), ?_, ?_, rfl, ?_⟩
    · have h1 := lHas_eq G (lN : Int)
      rw [if_pos c.1] at h1
      simp only [f_Hall_chain, h1, Option.bind_some, if_neg (show ¬ (1 : Int) = 0 by decide), if_pos c.2, r1, hA]
    · show f_Model_chain G1 (lN : Int) i = _
      have h1 := mLand_eq (G := G1) (lN : Int) (by rw [hn1]; omega) (by rw [hn1]; omega)
      rw [hn1, if_pos (by omega)] at h1
      exact mch_eq h1 c.2 u1 t1 hB
    · show Inv G3
      have fr : ∀ c k, c ≠ 136 → ¬ (c = 81 ∧ (k = 85 ∨ k = 86)) → gi G3 c k = gi G1 c k := fun c k a b => by rw [t3 c k a, u2 c k a b]
      refine Inv_jur (fun c k q => ?_) (fun c k => by rw [t4, u3, r3]) ⟨?_, ?_, fun l hl => ?_⟩ ⟨Or.inr (by rw [t3 81 85 (by decide)]; exact u4), fun _ => by rw [t3 81 86 (by decide)]; exact u5' trivial⟩ hI
      · unfold scr at q
        rw [fr c k (by omega) (by omega), r2 c k (by omega) (by omega) (by omega)]
      · rw [fr 45 3 (by decide) (by omega)]; exact r4.1
      · rw [fr 45 4 (by decide) (by omega)]; exact r4.2.1
      · rw [fr 48 l (by decide) (by omega)]; exact r4.2.2 l hl
  · refine ⟨(-2, G), (-2, G), ?_, ?_, rfl, hI⟩
    · have h1 := lHas_eq G l
      simp only [f_Hall_chain, h1, Option.bind_some]
      by_cases z : 0 ≤ l ∧ l < gi G 9 5
      · rw [if_pos z, if_neg (show ¬ (1 : Int) = 0 by decide), if_neg (by omega)]
      · rw [if_neg z, if_pos rfl]
    · show f_Model_chain G l i = _
      have h1 := mLand_eq (G := G) l (by omega) (by omega)
      rw [n10] at h1
      rw [n5] at c
      by_cases z : 0 ≤ l ∧ l < (N : Int)
      · rw [if_pos z] at h1
        simp only [f_Model_chain, h1, Option.bind_some, if_neg (show ¬ (1 : Int) = 0 by decide), if_neg (show ¬ 0 ≤ i by omega)]
      · rw [if_neg z] at h1
        simp only [f_Model_chain, h1, Option.bind_some, if_true]
