/-! days of wardship, of age, guardian -/
theorem lawH {G : GS} {F : Fam} {p l r : Nat} (hA : Asked G F p l r) : f_Hall_lawAt G (gi G 7 p) = some (gp G 49 r) := by
  obtain ⟨hI, hF, hB, hD, hC, r4, hon, hday, hpN, hl⟩ := hA
  have hR := hI.2.2.2.1
  have hK := hI.2.2.2.2.2.2.2.2
  obtain ⟨s, s4, a1, a2⟩ := on_h (d := gi G 7 p) hR hday.1
  have e := on_one a1 hon
  subst e
  have lc := hK.1 s s4
  have s4' : (s : Int) < 4 := by omega
  unfold f_Hall_lawAt
  rw [a2]
  simp [gd, lc, s4']
theorem reignM {G : GS} {F : Fam} {p l r : Nat} (hA : Asked G F p l r) : f_Model_reignOn G (gi G 87 p) = some (r : Int) := by
  obtain ⟨hI, hF, hB, hD, hC, r4, hon, hday, hpN, hl⟩ := hA
  have hE := hI.1
  have e87 := hE.1 (87, 7) (by decide) p
  have e95 := hE.1 (95, 74) (by decide)
  simp only at e87 e95
  obtain ⟨s, s4, a1, a2⟩ := on_m (d := gi G 7 p) hI.2.2.2.1 hday.1 (eqS_in hE).2.2.2.1 e95
  rw [on_one a1 hon] at a2
  rw [e87]; exact a2
def UN (G : GS) (r l q : Nat) : Int := if gi G 2 q = 0 then gi G (gp G 49 r + 2) (gi G 11 l).toNat else gi G (gp G 49 r + 3) (gi G 11 l).toNat
theorem askR {G : GS} {F : Fam} {p l r : Nat} (hA : Asked G F p l r) : l < 12 ∧ (p : Int) < gi G 1 7 ∧ gi G 1 7 ≤ 32 ∧ p < 32 ∧ (0 ≤ gi G 11 l ∧ gi G 11 l ≤ 2) ∧ r < 4 := by
  obtain ⟨hI, hF, hB, hD, hC, r4, hon, hday, hpN, hl⟩ := hA
  have l1 := hI.2.2.1.2.1
  have k1 := hI.2.1.2.2.2.1
  have lk := hI.2.2.1.2.2.1 l hl
  unfold LOK at lk
  have := hB.1
  exact ⟨by omega, by omega, k1, by omega, lk.2.1, r4⟩
theorem lawV {G : GS} {F : Fam} {p l r : Nat} (hA : Asked G F p l r) : LawRel G r (gp G 49 r) := hA.1.2.2.2.2.2.2.2.2.2.2.2.2 r hA.2.2.2.2.2.1
theorem UN_b {G : GS} {F : Fam} {p l r : Nat} (hA : Asked G F p l r) (q : Nat) : 0 ≤ UN G r l q ∧ UN G r l q ≤ 40 := by
  have := (lawV hA).2.2.2.1 (gi G 11 l).toNat (by have := askR hA; omega)
  unfold UN
  split <;> omega
theorem UN_fr {G G' : GS} {r l q : Nat} (lc : lawC (gp G 49 r) = true) (hi : ∀ c k, ¬ scr c k → gi G' c k = gi G c k) (hp : ∀ c k, gp G' c k = gp G c k) : UN G' r l q = UN G r l q := by
  have := law_rng lc
  unfold UN
  rw [hp, hi 2 q (by unfold scr; omega), hi 11 l (by unfold scr; omega), hi (gp G 49 r + 2) _ (by unfold scr; omega), hi (gp G 49 r + 3) _ (by unfold scr; omega)]
theorem wday_C {G : GS} {F : Fam} {p l r q : Nat} (hA : Asked G F p l r) (hq : (q : Int) < gi G 1 7) : f_Hall_wardDays G p l q = some (360 * UN G r l q) := by
  obtain ⟨h1, h2, h3, h4, h5, h6⟩ := askR hA
  have hb := UN_b hA q
  have hm := isMan_eq (G := G) (q : Int) h3
  rw [Int.toNat_natCast] at hm
  have hw : wr (360 * UN G r l q) = 360 * UN G r l q := wr_of (by omega) (by omega)
  unfold UN at hw ⊢
  have e : f_Hall_wardDays G p l q = (f_People_isMan G q).bind fun q2 => if q2 = 0 then some (wr (360 * gi G (gp G 49 r + 3) (gi G 11 l).toNat)) else some (wr (360 * gi G (gp G 49 r + 2) (gi G 11 l).toNat)) := by
    simp only [f_Hall_wardDays, gd, if_pos (show (0 : Int) ≤ (p : Int) ∧ (p : Int) < 32 by omega), Int.toNat_natCast, lawH hA, Option.bind_some, if_pos (show (0 : Int) ≤ (l : Int) ∧ (l : Int) < 12 by omega), if_pos (show 0 ≤ gi G 11 l ∧ gi G 11 l < 3 by omega)]
  rw [e, hm, Option.bind_some]
  by_cases c : gi G 2 q = 0
  · rw [if_pos c] at hw ⊢
    have hc : (if 0 ≤ (q : Int) ∧ (q : Int) < gi G 1 7 ∧ gi G 2 q = 0 then (1 : Int) else 0) = 1 := if_pos ⟨by omega, hq, c⟩
    rw [hc, if_neg (by decide), hw]
  · rw [if_neg c] at hw ⊢
    have hc : (if 0 ≤ (q : Int) ∧ (q : Int) < gi G 1 7 ∧ gi G 2 q = 0 then (1 : Int) else 0) = 0 := if_neg (fun z => c z.2.2)
    rw [hc, if_pos rfl, hw]
theorem until_M {G : GS} {F : Fam} {p l r q : Nat} (hA : Asked G F p l r) (hq : (q : Int) < gi G 1 7) : f_Model_untilOf G r l q = some (UN G r l q) := by
  obtain ⟨h1, h2, h3, h4, h5, h6⟩ := askR hA
  have hv := (lawV hA).2.2.2.1 (gi G 11 l).toNat (by omega)
  have e82 := hA.1.1.1 (82, 2) (by decide) q
  have e91 := hA.1.1.1 (91, 11) (by decide) l
  simp only at e82 e91
  have hw : wr ((3 * (r : Int)) + gi G 11 l) = ((3 * r + (gi G 11 l).toNat : Nat) : Int) := by rw [wr_of (by omega) (by omega)]; omega
  unfold UN
  simp only [f_Model_untilOf, gd, if_pos (show (0 : Int) ≤ (q : Int) ∧ (q : Int) < 32 by omega), Int.toNat_natCast, e82, if_pos (show (0 : Int) ≤ (l : Int) ∧ (l : Int) < 12 by omega), e91, hw, if_pos (show (0 : Int) ≤ ((3 * r + (gi G 11 l).toNat : Nat) : Int) ∧ ((3 * r + (gi G 11 l).toNat : Nat) : Int) < 12 by omega), hv.1, hv.2.2.2.1]
  split <;> rfl
theorem perA {G : GS} {F : Fam} {p l r q : Nat} (hA : Asked G F p l r) (hq : (q : Int) < gi G 1 7) : (0 ≤ gi G 5 q ∧ gi G 5 q ≤ 29999) ∧ (0 ≤ gi G 6 q ∧ gi G 6 q ≤ 29999) ∧ gi G 85 q = gi G 5 q ∧ gi G 86 q = gi G 6 q ∧ gi G 87 p = gi G 7 p := by
  have hP := hA.1.2.1
  have pq := hP.2.2.2.2.1 q hq
  unfold POK at pq
  have n1 := hP.2.1
  exact ⟨by omega, by omega, hA.1.1.1 (85, 5) (by decide) q, hA.1.1.1 (86, 6) (by decide) q, hA.1.1.1 (87, 7) (by decide) p⟩
theorem age_C {G : GS} {F : Fam} {p l r q : Nat} (hA : Asked G F p l r) (hq : (q : Int) < gi G 1 7) : f_Hall_isOfAge G p l q = some (if gi G 7 p < gi G 5 q + 360 * UN G r l q then 0 else 1) := by
  obtain ⟨h1, h2, h3, h4, h5, h6⟩ := askR hA
  have hb := UN_b hA q
  obtain ⟨p1, -⟩ := perA hA hq
  simp only [f_Hall_isOfAge, gd, if_pos (show (0 : Int) ≤ (q : Int) ∧ (q : Int) < 32 by omega), if_pos (show (0 : Int) ≤ (p : Int) ∧ (p : Int) < 32 by omega), Int.toNat_natCast, wday_C hA hq, Option.bind_some, wr_of (x := gi G 5 q + 360 * UN G r l q) (by omega) (by omega)]
  split <;> rfl
theorem ward_M {G : GS} {F : Fam} {p l r q : Nat} (hA : Asked G F p l r) (hq : (q : Int) < gi G 1 7) : f_Model_isWard G p l q = some (if gi G 7 p < gi G 5 q + 360 * UN G r l q then 1 else 0) := by
  obtain ⟨h1, h2, h3, h4, h5, h6⟩ := askR hA
  have hb := UN_b hA q
  obtain ⟨p1, p2, p3, p4, p5⟩ := perA hA hq
  have rm := reignM hA
  rw [p5] at rm
  simp only [f_Model_isWard, gd, if_pos (show (0 : Int) ≤ (q : Int) ∧ (q : Int) < 32 by omega), if_pos (show (0 : Int) ≤ (p : Int) ∧ (p : Int) < 32 by omega), Int.toNat_natCast, rm, until_M hA hq, Option.bind_some, p3, p5, wr_of (x := gi G 5 q + 360 * UN G r l q) (by omega) (by omega)]
  by_cases c : gi G 7 p < gi G 5 q + 360 * UN G r l q
  · rw [if_pos c, if_neg (by omega)]
  · rw [if_neg c, if_pos (by omega)]
def AL (G : GS) (x d : Int) : Bool := decide (0 ≤ x ∧ x < gi G 1 7 ∧ gi G 5 x.toNat ≤ d ∧ (gi G 7 x.toNat = -1 ∨ d < gi G 7 x.toNat))
theorem al_C {G : GS} (x d : Int) (h : gi G 1 7 ≤ 32) : f_People_isAlive G x d = some (if AL G x d = true then 1 else 0) := by
  rw [alive_H x d h]
  unfold AL
  simp only [decide_eq_true_eq]
theorem al_M {G : GS} (hI : Inv G) {x : Int} (d : Int) (g1 : 0 ≤ x ∧ x < gi G 1 7) : f_Model_isAlive G x d = some (if AL G x d = true then 1 else 0) := by
  have k1 := hI.2.1.2.2.2.1
  have e85 := hI.1.1 (85, 5) (by decide) x.toNat
  have e87 := hI.1.1 (87, 7) (by decide) x.toNat
  simp only at e85 e87
  rw [alive_M d (by omega), e85, e87]
  unfold AL
  simp only [decide_eq_true_eq]
  by_cases c : gi G 5 x.toNat ≤ d ∧ (gi G 7 x.toNat = -1 ∨ d < gi G 7 x.toNat)
  · rw [if_pos c, if_pos ⟨g1.1, g1.2, c⟩]
  · rw [if_neg c, if_neg (fun z => c z.2.2)]
def GU (G : GS) (p l r q : Nat) : Int :=
  if gi G (gp G 49 r + 4) (gi G 11 l).toNat = 1 then -1 else if gi G (gp G 49 r + 4) (gi G 11 l).toNat = 0 then gi G 12 l
  else if gi G 4 q = -1 then gi G 12 l else if AL G (gi G 4 q) (gi G 7 p) = true then gi G 4 q
  else if AL G (gi G 3 (gi G 4 q).toNat) (gi G 7 p) = true then gi G 3 (gi G 4 q).toNat
  else if AL G (gi G 4 (gi G 4 q).toNat) (gi G 7 p) = true then gi G 4 (gi G 4 q).toNat else gi G 12 l
theorem AL_fr {G G' : GS} (hi : ∀ c k, ¬ scr c k → gi G' c k = gi G c k) (x d : Int) : AL G' x d = AL G x d := by
  unfold AL
  rw [hi 1 7 (by unfold scr; omega), hi 5 _ (by unfold scr; omega), hi 7 _ (by unfold scr; omega)]
theorem GU_fr {G G' : GS} {p l r q : Nat} (lc : lawC (gp G 49 r) = true) (hi : ∀ c k, ¬ scr c k → gi G' c k = gi G c k) (hp : ∀ c k, gp G' c k = gp G c k) : GU G' p l r q = GU G p l r q := by
  have := law_rng lc
  have a11 := hi 11 l (by unfold scr; omega)
  have a12 := hi 12 l (by unfold scr; omega)
  have a3 := fun k => hi 3 k (by unfold scr; omega)
  have a4 := fun k => hi 4 k (by unfold scr; omega)
  have a7 := hi 7 p (by unfold scr; omega)
  have aw := fun k => hi (gp G 49 r + 4) k (by unfold scr; omega)
  unfold GU
  simp only [AL_fr hi, hp, a11, a12, a3, a4, a7, aw]
theorem gu_C {G : GS} {F : Fam} {p l r q : Nat} (hA : Asked G F p l r) (hq : (q : Int) < gi G 1 7) : f_Hall_guardian G p l q = some (GU G p l r q) := by
  obtain ⟨h1, h2, h3, h4, h5, h6⟩ := askR hA
  have hP := hA.1.2.1
  have pq := hP.2.2.2.2.1 q hq
  unfold POK at pq
  unfold GU
  simp only [f_Hall_guardian, gd, if_pos (show (0 : Int) ≤ (p : Int) ∧ (p : Int) < 32 by omega), Int.toNat_natCast, lawH hA, Option.bind_some, if_pos (show (0 : Int) ≤ (l : Int) ∧ (l : Int) < 12 by omega), if_pos (show 0 ≤ gi G 11 l ∧ gi G 11 l < 3 by omega), if_pos (show (0 : Int) ≤ (q : Int) ∧ (q : Int) < 32 by omega), al_C _ _ h3]
  by_cases c1 : gi G (gp G 49 r + 4) (gi G 11 l).toNat = 1
  · rw [if_pos c1, if_pos c1]
  rw [if_neg c1, if_neg c1]
  by_cases c2 : gi G (gp G 49 r + 4) (gi G 11 l).toNat = 0
  · rw [if_pos c2, if_pos c2]
  rw [if_neg c2, if_neg c2]
  by_cases c3 : gi G 4 q = -1
  · rw [if_pos c3, if_pos c3]
  rw [if_neg c3, if_neg c3]
  have g4 : 0 ≤ gi G 4 q ∧ gi G 4 q < 32 := by omega
  simp only [if_pos g4]
  cases AL G (gi G 4 q) (gi G 7 p) <;> cases AL G (gi G 3 (gi G 4 q).toNat) (gi G 7 p) <;> cases AL G (gi G 4 (gi G 4 q).toNat) (gi G 7 p) <;> simp
theorem gu_M {G : GS} {F : Fam} {p l r q : Nat} (hA : Asked G F p l r) (hq : (q : Int) < gi G 1 7) : f_Model_guardian G p l q = some (GU G p l r q) := by
  obtain ⟨h1, h2, h3, h4, h5, h6⟩ := askR hA
  have hI := hA.1
  have hP := hI.2.1
  have pq := hP.2.2.2.2.1 q hq
  have hv := (lawV hA).2.2.2.1 (gi G 11 l).toNat (by omega)
  have e91 := hI.1.1 (91, 11) (by decide) l
  have e92 := hI.1.1 (92, 12) (by decide) l
  have e87 := hI.1.1 (87, 7) (by decide) p
  have e83 := hI.1.1 (83, 3) (by decide)
  have e84 := hI.1.1 (84, 4) (by decide)
  simp only at e91 e92 e87 e83 e84
  unfold POK at pq
  have hw : wr ((3 * (r : Int)) + gi G 11 l) = ((3 * r + (gi G 11 l).toNat : Nat) : Int) := by rw [wr_of (by omega) (by omega)]; omega
  have rm := reignM hA
  rw [e87] at rm
  unfold GU
  simp only [f_Model_guardian, f_Model_guardian_L117, gd, if_pos (show (0 : Int) ≤ (p : Int) ∧ (p : Int) < 32 by omega), Int.toNat_natCast, e87, rm, Option.bind_some, if_pos (show (0 : Int) ≤ (l : Int) ∧ (l : Int) < 12 by omega), e91, hw, if_pos (show (0 : Int) ≤ ((3 * r + (gi G 11 l).toNat : Nat) : Int) ∧ ((3 * r + (gi G 11 l).toNat : Nat) : Int) < 12 by omega), if_pos (show (0 : Int) ≤ (q : Int) ∧ (q : Int) < 32 by omega), hv.2.2.2.2.2.2.1, e92, e83, e84]
  by_cases c1 : gi G (gp G 49 r + 4) (gi G 11 l).toNat = 1
  · rw [if_pos c1, if_pos c1]
  rw [if_neg c1, if_neg c1]
  by_cases c2 : gi G (gp G 49 r + 4) (gi G 11 l).toNat = 0
  · rw [if_pos c2, if_pos c2]
  rw [if_neg c2, if_neg c2]
  by_cases c3 : gi G 4 q = -1
  · rw [if_pos c3, if_pos c3]
  rw [if_neg c3, if_neg c3]
  have g4 : 0 ≤ gi G 4 q ∧ gi G 4 q < gi G 1 7 := by omega
  have g4' : 0 ≤ gi G 4 q ∧ gi G 4 q < 32 := by omega
  obtain ⟨m, hm⟩ : ∃ m : Nat, gi G 4 q = m := ⟨(gi G 4 q).toNat, by omega⟩
  rw [hm] at g4 g4' ⊢
  have pm := hP.2.2.2.2.1 m (by omega)
  unfold POK at pm
  rw [Int.toNat_natCast, al_M hI _ g4, Option.bind_some, if_pos g4']
  cases a1 : AL G (m : Int) (gi G 7 p)
  · simp only [Bool.false_eq_true, if_false, if_true]
    have L117 : (if gi G 4 m = -1 then some (gi G 12 l) else (f_Model_isAlive G (gi G 4 m) (gi G 7 p)).bind fun q1 => if q1 = 0 then some (gi G 12 l) else some (gi G 4 m)) = some (if AL G (gi G 4 m) (gi G 7 p) = true then gi G 4 m else gi G 12 l) := by
      by_cases d : gi G 4 m = -1
      · have : AL G (gi G 4 m) (gi G 7 p) = false := by unfold AL; exact decide_eq_false (by omega)
        rw [if_pos d, this, if_neg (by decide)]
      · rw [if_neg d, al_M hI _ (by omega), Option.bind_some]
        cases AL G (gi G 4 m) (gi G 7 p) <;> simp
    by_cases d : gi G 3 m = -1
    · have : AL G (gi G 3 m) (gi G 7 p) = false := by unfold AL; exact decide_eq_false (by omega)
      rw [if_pos d, this, if_neg (show ¬ (false = true) by decide)]
      simp only [if_pos g4']
      exact L117
    · rw [if_neg d, if_pos g4', al_M hI _ (by omega), Option.bind_some]
      cases a2 : AL G (gi G 3 m) (gi G 7 p)
      · rw [if_neg (show ¬ (false = true) by decide), if_pos rfl, if_neg (show ¬ (false = true) by decide)]
        simp only [if_pos g4']
        exact L117
      · rw [if_pos rfl, if_neg (by decide), if_pos g4', if_pos rfl]
  · rw [if_pos rfl, if_neg (by decide), if_pos rfl]
