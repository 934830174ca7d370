/-! the step of dower -/
theorem ite01 {c : Prop} [Decidable c] : ((if c then (1 : Int) else 0) = 0) = ¬ c := by
  by_cases h : c <;> simp [h]
theorem alive_H {G : GS} (p d : Int) (h : gi G 1 7 ≤ 32) : f_People_isAlive G p d = some (if 0 ≤ p ∧ p < gi G 1 7 ∧ gi G 5 p.toNat ≤ d ∧ (gi G 7 p.toNat = -1 ∨ d < gi G 7 p.toNat) then 1 else 0) := by
  have hh := has_eq G p
  by_cases c : 0 ≤ p ∧ p < gi G 1 7
  · rw [if_pos c] at hh
    have g1 : 0 ≤ p ∧ p < 32 := by omega
    simp only [f_People_isAlive, hh, Option.bind_some, if_neg (show ¬ (1 : Int) = 0 by decide), gd, if_pos g1]
    by_cases c1 : d < gi G 5 p.toNat
    · rw [if_pos c1, if_neg (by omega)]
    · rw [if_neg c1]
      by_cases c2 : gi G 7 p.toNat = -1
      · rw [if_pos c2, if_pos (by omega)]
      · rw [if_neg c2]
        by_cases c3 : gi G 7 p.toNat ≤ d
        · rw [if_pos c3, if_neg (by omega)]
        · rw [if_neg c3, if_pos (by omega)]
  · rw [if_neg c] at hh
    simp only [f_People_isAlive, hh, Option.bind_some, if_true]
    rw [if_neg (by omega)]
theorem alive_M {G : GS} {p : Int} (d : Int) (g1 : 0 ≤ p ∧ p < 32) : f_Model_isAlive G p d = some (if gi G 85 p.toNat ≤ d ∧ (gi G 87 p.toNat = -1 ∨ d < gi G 87 p.toNat) then 1 else 0) := by
  simp only [f_Model_isAlive, f_Model_isAlive_L20, gd, if_pos g1]
  by_cases c1 : d < gi G 85 p.toNat
  · rw [if_pos c1, if_neg (show ¬ (gi G 85 p.toNat ≤ d ∧ (gi G 87 p.toNat = -1 ∨ d < gi G 87 p.toNat)) by omega)]
    split
    · rfl
    · split <;> rfl
  · rw [if_neg c1]
    by_cases c2 : gi G 87 p.toNat = -1
    · rw [if_pos c2, if_pos (by omega)]
    · rw [if_neg c2]
      by_cases c3 : gi G 87 p.toNat ≤ d
      · rw [if_pos c3, if_neg (by omega)]
      · rw [if_neg c3, if_pos (by omega)]
theorem ask_M {G : GS} {p l : Int} (h0 : 0 ≤ gi G 81 1) (h1 : gi G 81 1 ≤ 32) (h2 : 0 ≤ gi G 81 10) (h3 : gi G 81 10 ≤ 12) : f_Model_canAsk G p l = some (if (0 ≤ p ∧ p < gi G 81 1) ∧ gi G 87 p.toNat ≠ -1 ∧ (0 ≤ l ∧ l < gi G 81 10) then 1 else 0) := by
  have a := isPerson_eq (G := G) p h0 h1
  have b := mLand_eq (G := G) l h2 h3
  by_cases c : 0 ≤ p ∧ p < gi G 81 1
  · rw [if_pos c] at a
    simp only [f_Model_canAsk, a, b, Option.bind_some, if_neg (show ¬ (1 : Int) = 0 by decide), gd, if_pos (show 0 ≤ p ∧ p < 32 by omega), ite01]
    by_cases c1 : gi G 87 p.toNat = -1
    · rw [if_pos c1, if_neg (by omega)]
    · rw [if_neg c1]
      by_cases c2 : 0 ≤ l ∧ l < gi G 81 10
      · rw [if_neg (fun z => z c2), if_pos ⟨c, c1, c2⟩]
      · rw [if_pos c2, if_neg (fun z => c2 z.2.2)]
  · rw [if_neg c] at a
    simp only [f_Model_canAsk, a, Option.bind_some, if_true]
    rw [if_neg (fun z => c z.1)]
def gLa (G : GS) (l : Nat) : Nat → Int := fun a => gi G 13 (6 * l + a)
def qLa (G : GS) (l : Nat) : Nat → Int := fun a => gi G 14 (6 * l + a)
theorem Acr_of {G : GS} (h : InvL G) (l : Nat) : Acr (gLa G l) (qLa G l) := fun a => h.2.2.2 (6 * l + a) |>.imp id (fun _ => h.2.2.2 (6 * l + a) |>.2)
theorem worth_C {G : GS} (h : InvL G) {l : Nat} (hl : l < 12) : f_Lands_worthOf G l = some (W6 (gLa G l) 63) := by
  have := wC_eq (G := G) hl (Acr_of h l) (fun a _ => rfl) (s := 63) (by decide)
  unfold f_Lands_worthOf
  rw [show (63 : Int) = ((63 : Nat) : Int) from rfl, this]
  rfl
theorem worth_M {G : GS} (h : InvL G) (e93 : ∀ k, gi G 93 k = gi G 13 k) {l : Nat} (hl : l < 12) : f_Model_worthOf G l = some (W6 (gLa G l) 63) := by
  obtain ⟨v, p1, p2⟩ := worth_eq e93 (l := (l : Int)) (by omega) FU 0 0 (by omega) (by omega) (by unfold FU; omega)
  have h1 := wC_eq (G := G) hl (Acr_of h l) (fun a _ => rfl) (s := 63) (by decide)
  have h2 : f_Lands_worthOfSet G l ((63 : Nat) : Int) = some v := p1
  rw [h1] at h2
  have h3 : f_Model_worthOf G l = some v := p2
  rw [h3, ← h2]
theorem layD_eq {G : GS} {l : Nat} (hl : l < 12) (h : InvL G) {due : Int} (hd : due ≤ W6 (gLa G l) 63) : ∃ (G1 : GS) (b1 : Nat), f_Lands_layDower G l due = some G1 ∧ (∀ c k, ¬ (c = 9 ∧ 6 ≤ k) → gi G1 c k = gi G c k) ∧ (∀ c k, gp G1 c k = gp G c k) ∧ Bst (gLa G l) (qLa G l) due b1 ∧ gi G1 9 6 = b1 ∧ gi G1 9 7 = W6 (gLa G l) b1 ∧ gi G1 9 8 = S6 (gLa G l) (qLa G l) b1 := by
  have hA := Acr_of h l
  have wb := W6_b hA 63
  have sb := S6_b hA 63
  obtain ⟨g, hg⟩ : ∃ g, g = gLa G l := ⟨_, rfl⟩
  obtain ⟨q, hq⟩ : ∃ q, q = qLa G l := ⟨_, rfl⟩
  have hg' : ∀ a, a < 6 → gi G 13 (6 * l + a) = g a := fun a _ => by rw [hg]; rfl
  have hq' : ∀ a, a < 6 → gi G 14 (6 * l + a) = q a := fun a _ => by rw [hq]; rfl
  rw [← hg, ← hq] at hA sb ⊢
  rw [← hg] at wb hd
  clear hg hq
  have v1 : gi (si G 9 6 63) 9 6 = 63 := by rw [gi_si, if_pos ⟨rfl, rfl⟩]; exact wr_of (by decide) (by decide)
  have v2 : ∀ c k, ¬ (c = 9 ∧ 6 ≤ k) → gi (si G 9 6 63) c k = gi G c k := fun c k z => by rw [gi_si, if_neg (by omega)]
  have v3 : ∀ c k, gp (si G 9 6 63) c k = gp G c k := fun _ _ => rfl
  unfold f_Lands_layDower
  simp only [wG]
  generalize si G 9 6 63 = G1 at *
  have w1 : f_Lands_worthOf G1 l = some (W6 g 63) := by
    have := wC_eq (G := G1) hl hA (fun a ha => by rw [v2 13 _ (by omega)]; exact hg' a ha) (s := 63) (by decide)
    unfold f_Lands_worthOf
    rw [show (63 : Int) = ((63 : Nat) : Int) from rfl, this]
    rfl
  rw [w1, Option.bind_some]
  have u1 : gi (si G1 9 7 (W6 g 63)) 9 7 = W6 g 63 := by rw [gi_si, if_pos ⟨rfl, rfl⟩]; exact wr_of (by omega) (by omega)
  have u2 : ∀ c k, ¬ (c = 9 ∧ k = 7) → gi (si G1 9 7 (W6 g 63)) c k = gi G1 c k := fun c k z => by rw [gi_si, if_neg z]
  have u3 : ∀ c k, gp (si G1 9 7 (W6 g 63)) c k = gp G1 c k := fun _ _ => rfl
  generalize si G1 9 7 (W6 g 63) = G2 at *
  have s1 := sC_eq (G := G2) hl hA (fun a ha => by rw [u2 13 _ (by omega), v2 13 _ (by omega)]; exact hg' a ha) (fun a ha => by rw [u2 14 _ (by omega), v2 14 _ (by omega)]; exact hq' a ha) (s := 63) (by decide)
  rw [u2 9 6 (by omega), v1, show (63 : Int) = ((63 : Nat) : Int) from rfl, s1, Option.bind_some]
  have t1 : gi (si G2 9 8 (S6 g q 63)) 9 8 = S6 g q 63 := by rw [gi_si, if_pos ⟨rfl, rfl⟩]; exact wr_of (by omega) (by omega)
  have t2 : ∀ c k, ¬ (c = 9 ∧ k = 8) → gi (si G2 9 8 (S6 g q 63)) c k = gi G2 c k := fun c k z => by rw [gi_si, if_neg z]
  have t3 : ∀ c k, gp (si G2 9 8 (S6 g q 63)) c k = gp G2 c k := fun _ _ => rfl
  generalize si G2 9 8 (S6 g q 63) = G3 at *
  have e6 : gi G3 9 6 = 63 := by rw [t2 9 6 (by omega), u2 9 6 (by omega)]; exact v1
  rw [e6, wr_of (x := 63 - 1) (by decide) (by decide)]
  obtain ⟨G4, b1, r1, r2, r3, r4⟩ := dowC_L hl hA (due := due) FU G3 63 63 (by decide) (by unfold FU; omega) (fun a ha => by rw [t2 13 _ (by omega), u2 13 _ (by omega), v2 13 _ (by omega)]; exact hg' a ha) (fun a ha => by rw [t2 14 _ (by omega), u2 14 _ (by omega), v2 14 _ (by omega)]; exact hq' a ha) (Nat.le_refl _) (by decide) hd (fun s a1 a2 a3 => by rw [show s = 63 by omega]; unfold btr; omega) e6 (by rw [t2 9 7 (by omega)]; exact u1) t1
  exact ⟨G4, b1, r1, fun c k z => by rw [r2 c k z, t2 c k (by omega), u2 c k (by omega), v2 c k z], fun c k => by rw [r3, t3, u3, v3], r4⟩
theorem due_eq {W a b : Int} (hW : 0 ≤ W ∧ W ≤ 594) (ha : 0 ≤ a) (hab : a ≤ b) (hb : 1 ≤ b ∧ b ≤ 99999) : (dv (W * a + max 1 b - 1) (max 1 b) = (W * a + b - 1) / b ∧ wr (ldv (wl (W * a) + b - 1) b) = (W * a + b - 1) / b) ∧ 0 ≤ (W * a + b - 1) / b ∧ (W * a + b - 1) / b ≤ W := by
  have p0 : 0 ≤ W * a := Int.mul_nonneg hW.1 ha
  have p1 : W * a ≤ W * b := Int.mul_le_mul_of_nonneg_left hab hW.1
  have p2 : W * b ≤ 594 * b := Int.mul_le_mul_of_nonneg_right hW.2 (by omega)
  have d0 : 0 ≤ (W * a + b - 1) / b := Int.ediv_nonneg (by omega) (by omega)
  have d1 : (W * a + b - 1) / b < W + 1 := Int.ediv_lt_of_lt_mul (by omega) (by rw [Int.add_mul]; omega)
  rw [show max 1 b = b by omega, wl_of (x := W * a) (by omega) (by omega), dv_nn (by omega) (by omega) (by omega) (by omega), ldv_nn (by omega) (by omega) (by omega) (by omega), wr_of (by omega) (by omega)]
  exact ⟨⟨rfl, rfl⟩, d0, by omega⟩
theorem step_dower : Step_dower Inv := by
  intro G p l w hp hl hw hI
  have hI' := hI
  obtain ⟨hE, hP, hL, hR, hS, hT, hM, hJ, hK⟩ := hI
  obtain ⟨e0, e1, e10, e16, -⟩ := eqS_in hE
  have k0 := hP.2.2.1
  have k1 := hP.2.2.2.1
  have l0 := hL.1
  have l1 := hL.2.1
  have e82 := hE.1 (82, 2) (by decide)
  have e85 := hE.1 (85, 5) (by decide)
  have e87 := hE.1 (87, 7) (by decide)
  have e88 := hE.1 (88, 8) (by decide)
  have e93 := hE.1 (93, 13) (by decide)
  have e94 := hE.1 (94, 14) (by decide)
  have e95 := hE.1 (95, 74) (by decide)
  simp only at e82 e85 e87 e88 e93 e94 e95
  have hH1 := lHas_eq G l
  have hH2 := isMan_eq (G := G) p k1
  have hH3 := isDead_eq (G := G) p k1
  have hH4 := alive_H (G := G) (gi G 8 p.toNat) (gi G 7 p.toNat) k1
  have mask : ∀ G1 : GS, (∀ c k, ¬ (c = 9 ∧ 6 ≤ k) → gi G1 c k = gi G c k) → f_Model_canAsk G1 p l = some (if (0 ≤ p ∧ p < gi G 1 7) ∧ gi G 7 p.toNat ≠ -1 ∧ (0 ≤ l ∧ l < gi G 9 5) then 1 else 0) := fun G1 q => by
    rw [ask_M (by rw [q _ _ (by omega)]; omega) (by rw [q _ _ (by omega)]; omega) (by rw [q _ _ (by omega)]; omega) (by rw [q _ _ (by omega)]; omega), q 81 1 (by omega), q 87 _ (by omega), q 81 10 (by omega), e1, e87, e10]
  by_cases c : (0 ≤ w ∧ w ≤ 3) ∧ (0 ≤ l ∧ l < gi G 9 5) ∧ (0 ≤ p ∧ p < gi G 1 7 ∧ gi G 2 p.toNat = 0) ∧ gi G 7 p.toNat ≠ -1 ∧ (0 ≤ gi G 8 p.toNat ∧ gi G 8 p.toNat < gi G 1 7 ∧ gi G 5 (gi G 8 p.toNat).toNat ≤ gi G 7 p.toNat ∧ (gi G 7 (gi G 8 p.toNat).toNat = -1 ∨ gi G 7 p.toNat < gi G 7 (gi G 8 p.toNat).toNat))
  · obtain ⟨c1, c2, c3, c4, c5⟩ := c
    obtain ⟨pn, rfl⟩ : ∃ k : Nat, p = k := ⟨p.toNat, by omega⟩
    obtain ⟨ln, rfl⟩ : ∃ k : Nat, l = k := ⟨l.toNat, by omega⟩
    rw [Int.toNat_natCast] at *
    rw [if_pos c2] at hH1
    rw [if_pos c3] at hH2
    rw [if_pos ⟨c3.1, c3.2.1, c4⟩] at hH3
    rw [if_pos c5] at hH4
    have hl12 : ln < 12 := by omega
    have g1 : (0 : Int) ≤ (pn : Int) ∧ (pn : Int) < 32 := by omega
    have pk := hP.2.2.2.2.1 pn c3.2.1
    unfold POK at pk
    have hday : 0 ≤ gi G 7 pn := by omega
    obtain ⟨r, r4, a1, a2⟩ := on_h (d := gi G 7 pn) hR hday
    have lr := hK.2.2.2.2 r r4
    have lc := hK.1 r r4
    have r4' : (r : Int) < 4 := by omega
    have hz : f_Hall_lawAt G (gi G 7 pn) = some (gp G 49 r) := by
      unfold f_Hall_lawAt
      rw [a2]
      simp [gd, lc, r4']
    have hwC := worth_C hL hl12
    have wb := W6_b (Acr_of hL ln) 63
    obtain ⟨W, hWd⟩ : ∃ W, W = W6 (gLa G ln) 63 := ⟨_, rfl⟩
    obtain ⟨⟨d1, d2⟩, d3, d4⟩ := due_eq (W := W) (a := gi G (gp G 49 r) 4) (b := gi G (gp G 49 r) 5) (by omega) lr.2.1.1 lr.2.1.2.1 ⟨lr.2.1.2.2.1, lr.2.1.2.2.2.1⟩
    have b1 := lr.2.1.2.2.1
    obtain ⟨due, hdue⟩ : ∃ due, due = (W * gi G (gp G 49 r) 4 + gi G (gp G 49 r) 5 - 1) / gi G (gp G 49 r) 5 := ⟨_, rfl⟩
    rw [← hdue] at d1 d2 d3 d4
    rw [← hWd] at hwC
    obtain ⟨G1, b, s1, s2, s3, s4, s5, s6, s7⟩ := layD_eq (G := G) hl12 hL (due := due) (by omega)
    have hHd : f_Hall_dower G pn ln w = some (if w = 0 then due else if w = 1 then (b : Int) else if w = 2 then W6 (gLa G ln) b else S6 (gLa G ln) (qLa G ln) b, G1) := by
      simp only [f_Hall_dower, if_neg (show ¬ w < 0 by omega), if_neg (show ¬ 3 < w by omega), hH1, hH2, hH3, Int.toNat_natCast, hH4, Option.bind_some, if_neg (show ¬ (1 : Int) = 0 by decide), gd, if_pos g1, hz, hwC, if_pos (show ¬ max 1 (gi G (gp G 49 r) 5) = 0 by omega), d1, s1, s5, s6, s7]
      by_cases w0 : w = 0
      · simp only [if_pos w0]
      · by_cases w1 : w = 1
        · simp only [if_neg w0, if_pos w1]
        · by_cases w2 : w = 2
          · simp only [if_neg w0, if_neg w1, if_pos w2]
          · simp only [if_neg w0, if_neg w1, if_neg w2]
    -- the reference
    have q : ∀ c k, ¬ (c = 9 ∧ 6 ≤ k) → gi G1 c k = gi G c k := s2
    have hm := mask G1 q
    rw [if_pos ⟨⟨c3.1, c3.2.1⟩, c4, c2⟩] at hm
    have hin := isIn_eq G1 w 0 3
    rw [if_pos c1] at hin
    have hL1 : InvL G1 := InvL_fr (by rw [q 1 7 (by omega)]; exact Int.le_refl _) (q 9 5 (by omega)) (fun c k z => q c k (by omega)) hL
    have hal := alive_M (G := G1) (p := gi G1 88 pn) (gi G1 87 pn) (by rw [q 88 _ (by omega), e88]; omega)
    rw [q 88 _ (by omega), q 87 _ (by omega), q 85 _ (by omega), q 87 _ (by omega), e88, e87, e87, e85, if_pos ⟨c5.2.2.1, c5.2.2.2⟩] at hal
    obtain ⟨s, s4', b1', b2'⟩ := on_m (G := G1) (d := gi G 7 pn) (InvR_fr (q _ _ (by omega)) (fun _ => q _ _ (by omega)) hR) hday (by rw [q 81 16 (by omega), q 0 12 (by omega)]; exact e16) (fun j => by rw [q 95 j (by omega), q 74 j (by omega)]; exact e95 j)
    have b3 := on_one (onV_fr (q _ _ (by omega)) (fun _ => q _ _ (by omega)) b1') a1
    rw [b3] at b2'
    have hwM := worth_M (G := G1) hL1 (fun k => by rw [q 93 k (by omega), q 13 k (by omega)]; exact e93 k) hl12
    have hgl : gLa G1 ln = gLa G ln := by funext a; exact q 13 _ (by omega)
    rw [hgl, ← hWd] at hwM
    have e96 : gi G1 96 r = gi G (gp G 49 r) 4 := by rw [q 96 r (by omega)]; exact lr.1.1
    have e97 : gi G1 97 r = gi G (gp G 49 r) 5 := by rw [q 97 r (by omega)]; exact lr.1.2.1
    have b9 := lr.2.1.2.2.2.1
    have hdu : f_Model_dowerDue G1 pn ln = some due := by
      simp only [f_Model_dowerDue, gd, if_pos g1, Int.toNat_natCast, q 87 pn (by omega), e87, b2', Option.bind_some, hwM, if_pos (show (0 : Int) ≤ (r : Int) ∧ (r : Int) < 4 by omega), e96, e97]
      rw [wl_of (x := gi G (gp G 49 r) 5) (by omega) (by omega), if_pos (by omega), d2]
    obtain ⟨G2, b2, t1, t2, t3, t4⟩ := dowM_L hl12 (Acr_of hL ln) (due := due) (w := w) (by omega) FU G1 0 (-1) 0 0 (by omega) (by unfold FU; omega) (fun a _ => by rw [q 93 _ (by omega), e93]; rfl) (fun a _ => by rw [q 94 _ (by omega), e94]; rfl) (Or.inl ⟨rfl, fun s hs => by omega⟩)
    have hbb := Bst_one t4 s4
    rw [hbb] at t1
    refine ⟨_, (if w = 0 then due else if w = 1 then (b : Int) else if w = 2 then W6 (gLa G ln) b else S6 (gLa G ln) (qLa G ln) b, G2), hHd, ?_, rfl, Inv_scr (fun c k z => ?_) (fun c k => (t3 c k).trans (s3 c k)) hI'⟩
    · show f_Model_dower G1 pn ln w = _
      simp only [f_Model_dower, hm, Option.bind_some, if_neg (show ¬ (1 : Int) = 0 by decide), hin, gd, if_pos g1, Int.toNat_natCast, q 82 pn (by omega), e82, c3.2.2, if_true, q 88 pn (by omega), q 87 pn (by omega), e88, e87, if_neg (show ¬ gi G 8 pn = -1 by omega), hal, hdu]
      exact t1
    · show gi G2 c k = _
      unfold scr at z
      rw [t2 c k (by omega), s2 c k (by omega)]
  · refine ⟨(-1, G), (-1, G), ?_, ?_, rfl, hI'⟩
    · simp only [f_Hall_dower, hH1, hH2, hH3, hH4, Option.bind_some, ite01]
      by_cases a1 : w < 0
      · rw [if_pos a1]
      rw [if_neg a1]
      by_cases a2 : 3 < w
      · rw [if_pos a2]
      rw [if_neg a2]
      by_cases a3 : ¬ (0 ≤ l ∧ l < gi G 9 5)
      · rw [if_pos a3]
      rw [if_neg a3]
      by_cases a4 : ¬ (0 ≤ p ∧ p < gi G 1 7 ∧ gi G 2 p.toNat = 0)
      · rw [if_pos a4]
      rw [if_neg a4]
      by_cases a5 : ¬ (0 ≤ p ∧ p < gi G 1 7 ∧ gi G 7 p.toNat ≠ -1)
      · rw [if_pos a5]
      rw [if_neg a5, gd, if_pos (by omega), gd, if_pos (by omega), if_pos (by omega)]
    · show f_Model_dower G p l w = _
      have hm := mask G (fun _ _ _ => rfl)
      have hin := isIn_eq G w 0 3
      simp only [f_Model_dower, hm, hin, Option.bind_some, ite01]
      by_cases a1 : ¬ ((0 ≤ p ∧ p < gi G 1 7) ∧ gi G 7 p.toNat ≠ -1 ∧ (0 ≤ l ∧ l < gi G 9 5))
      · rw [if_pos a1]
      rw [if_neg a1]
      by_cases a2 : ¬ (0 ≤ w ∧ w ≤ 3)
      · rw [if_pos a2]
      rw [if_neg a2, gd, if_pos (by omega), e82]
      by_cases a3 : gi G 2 p.toNat = 0
      · rw [if_pos a3, gd, if_pos (by omega), e88]
        by_cases a4 : gi G 8 p.toNat = -1
        · rw [if_pos a4]
        · have pk := hP.2.2.2.2.1 p.toNat (by omega)
          unfold POK at pk
          have hal := alive_M (G := G) (p := gi G 8 p.toNat) (gi G 7 p.toNat) (by omega)
          rw [e85, e87, if_neg (by omega)] at hal
          rw [if_neg a4, gd, if_pos (by omega), gd, if_pos (by omega), e87, hal]
          rfl
      · rw [if_neg a3]
