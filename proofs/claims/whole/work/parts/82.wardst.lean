/-! the steps of ward and relief -/
theorem ward_all {H : GS} {F : Fam} {p l r q : Nat} {w : Int} (hA : Asked H F p l r) (hq : (q : Int) < gi H 1 7) (hw : 0 ≤ w ∧ w ≤ 5) : ∃ H2, Mq H H2 ∧ EvM H2 (ev F q 0 (tps F p)) ∧ (¬ 0 < (ev F q 0 (tps F p)).1 → f_Model_ward H p l q w = some (-2, H2)) ∧ (0 < (ev F q 0 (tps F p)).1 → f_Model_ward H p l q w = if w = 0 then (if gi H2 7 p < gi H2 5 q + 360 * UN H2 r l q then some (1, H2) else some (0, H2)) else if gi H2 7 p < gi H2 5 q + 360 * UN H2 r l q then (if w = 1 then some (wl (wr (gi H2 5 q + 360 * UN H2 r l q)), H2) else if w = 2 then some (wl (wr (gi H2 6 q + 360 * UN H2 r l q)), H2) else if w = 3 then (f_Model_isKings H2 p l).bind fun q8 => (if q8.1 = 0 then (f_Model_guardian q8.2 p l q).bind fun q9 => some (wl q9, q8.2) else some (-1, q8.2)) else if w = 4 then some (ldv ((W6 (gLa H2 l) 63 * (gl H2 81 61)) * (wr ((gi H2 5 q + 360 * UN H2 r l q) - gi H2 7 p))) ((gl H2 81 62) * 360), H2) else (f_Model_isKings H2 p l).bind fun q11 => (if q11.1 = 0 then some (0, q11.2) else some (1, q11.2))) else some (-2, H2)) := by
  obtain ⟨H2, r1, r2, r3⟩ := heir_M hA q
  obtain ⟨h1, h2, h3, h4, h5, h6⟩ := askR hA
  have hday := hA.2.2.2.2.2.2.2.1
  have e1 := (eqS_in hA.1.1).2.1
  have hcy : f_Model_canAsk H p l = some 1 := ask_yes hA.1 (by
    rw [Int.toNat_natCast]
    exact ⟨⟨by omega, h2⟩, by omega, by omega, hA.2.2.2.2.2.2.2.2.2⟩)
  have hpe := isPerson_eq (G := H) (q : Int) (by omega) (by omega)
  rw [e1, if_pos ⟨by omega, hq⟩] at hpe
  have hin := isIn_eq H w 0 5
  rw [if_pos hw] at hin
  have hA2 := (Mg.of_q r2).ask hA
  have hq2 : (q : Int) < gi H2 1 7 := by rw [(Mg.of_q r2).sc 1 7 (by unfold scr; omega)]; exact hq
  have rm := reignM hA2
  obtain ⟨p1, p2, p3, p4, p5⟩ := perA hA2 hq2
  rw [p5] at rm
  have w1 := worth_M hA2.1.2.2.1 (fun k => hA2.1.1.1 (93, 13) (by decide) k) h1
  have bd := ev_bd hA.2.1 q 0 p
  have hg := ev_2 hA.2.1 (q := q) (way := 0) hA.2.2.2.2.2.2.2.2.1
  have hz : ¬ wl (gl H2 81 62 * 360) = 0 := by
    rw [r3.2]
    have := hg.1.1
    rw [wl_of (by omega) (by omega)]
    omega
  refine ⟨H2, r2, r3, fun y => ?_, fun y => ?_⟩
  · rw [if_neg y] at r1
    simp only [f_Model_ward, hcy, hpe, hin, Option.bind_some, if_neg (show ¬ (1 : Int) = 0 by decide), r1, if_true]
  · rw [if_pos y] at r1
    have hwd := ward_M hA2 hq2
    by_cases d : gi H2 7 p < gi H2 5 q + 360 * UN H2 r l q
    · rw [if_pos d] at hwd
      simp only [f_Model_ward, hcy, hpe, hin, Option.bind_some, if_neg (show ¬ (1 : Int) = 0 by decide), r1, hwd, if_pos d, gd, if_pos (show (0 : Int) ≤ (p : Int) ∧ (p : Int) < 32 by omega), if_pos (show (0 : Int) ≤ (q : Int) ∧ (q : Int) < 32 by omega), Int.toNat_natCast, p5, rm, until_M hA2 hq2, p3, p4, w1, if_pos hz]
    · rw [if_neg d] at hwd
      simp only [f_Model_ward, hcy, hpe, hin, Option.bind_some, if_neg (show ¬ (1 : Int) = 0 by decide), r1, hwd, if_neg d, if_true]
theorem heirH {G G1 : GS} {F : Fam} {p l q : Nat} (hH : f_People_has G q = some 1) (h1 : f_Hall_layDescent G p l = some (1, G1)) (hL : LayE G1 F p) (hq : q < 32) (hqN : q < F.2.2.2) : f_Hall_isHeir G p l q = some (if 0 < (ev F q 0 (tps F p)).1 then 1 else 0, G1) := by
  have hc := heir_C hL hq hqN
  simp only [f_Hall_isHeir, hH, h1, Option.bind_some, if_neg (show ¬ (1 : Int) = 0 by decide), f_Descent_heirSet]
  by_cases y : 0 < (ev F q 0 (tps F p)).1
  · rw [if_neg (fun z => hc.mp z y), if_pos y]
  · rw [if_pos (hc.mpr y), if_neg y]
theorem step_ward : Step_ward Inv := by
  intro G p l q w hp hl hq hw hI
  have hP := hI.2.1
  have k1 := hP.2.2.2.1
  have k0 := hP.2.2.1
  have e1 := (eqS_in hI.1).2.1
  have hH := has_eq G q
  by_cases c : ((0 ≤ p ∧ p < gi G 1 7) ∧ gi G 7 p.toNat ≠ -1 ∧ (0 ≤ l ∧ l < gi G 9 5)) ∧ (0 ≤ q ∧ q < gi G 1 7) ∧ (0 ≤ w ∧ w ≤ 5)
  · obtain ⟨c, cq, cw⟩ := c
    obtain ⟨pn, rfl⟩ : ∃ k : Nat, p = k := ⟨p.toNat, by omega⟩
    obtain ⟨ln, rfl⟩ : ∃ k : Nat, l = k := ⟨l.toNat, by omega⟩
    obtain ⟨qn, rfl⟩ : ∃ k : Nat, q = k := ⟨q.toNat, by omega⟩
    rw [Int.toNat_natCast] at c
    obtain ⟨F, r, G1, h1, hA, hA1, hL, h2, h3, -⟩ := ask_in hI c.1.2 c.2.1 c.2.2.2
    rw [if_pos cq] at hH
    have hB := hA.2.2.1.1
    have q7 : (qn : Int) < gi G1 1 7 := by rw [h2 1 7 (by omega)]; exact cq.2
    have hh := heirH hH h1 hL (by omega) (by omega)
    obtain ⟨a1, a2, a3, a4, a5, a6⟩ := askR hA1
    have lc1 := hA1.1.2.2.2.2.2.2.2.2.1 r a6
    have ub := UN_b hA1 qn
    obtain ⟨p1, p2, -⟩ := perA hA1 q7
    -- the reference in a store that is alike
    have mod : ∀ Gf : GS, (∀ c k, ¬ scr c k → gi Gf c k = gi G1 c k) → (∀ c k, gp Gf c k = gp G1 c k) → ∃ H2, Inv H2 ∧ EvM H2 (ev F qn 0 (tps F pn)) ∧ (∀ c k, ¬ scr c k → gi H2 c k = gi G1 c k) ∧ (∀ c k, gp H2 c k = gp G1 c k) ∧ (¬ 0 < (ev F qn 0 (tps F pn)).1 → f_Model_ward Gf pn ln qn w = some (-2, H2)) ∧ (0 < (ev F qn 0 (tps F pn)).1 → f_Model_ward Gf pn ln qn w = if w = 0 then (if gi G1 7 pn < gi G1 5 qn + 360 * UN G1 r ln qn then some (1, H2) else some (0, H2)) else if gi G1 7 pn < gi G1 5 qn + 360 * UN G1 r ln qn then (if w = 1 then some (wl (wr (gi G1 5 qn + 360 * UN G1 r ln qn)), H2) else if w = 2 then some (wl (wr (gi G1 6 qn + 360 * UN G1 r ln qn)), H2) else if w = 3 then (f_Model_isKings H2 pn ln).bind fun q8 => (if q8.1 = 0 then (f_Model_guardian q8.2 pn ln qn).bind fun q9 => some (wl q9, q8.2) else some (-1, q8.2)) else if w = 4 then some (ldv ((W6 (gLa G1 ln) 63 * (gl H2 81 61)) * (wr ((gi G1 5 qn + 360 * UN G1 r ln qn) - gi G1 7 pn))) ((gl H2 81 62) * 360), H2) else (f_Model_isKings H2 pn ln).bind fun q11 => (if q11.1 = 0 then some (0, q11.2) else some (1, q11.2))) else some (-2, H2)) := by
      intro Gf hi hp
      obtain ⟨H2, m1, m2, m3, m4⟩ := ward_all (q := qn) (w := w) (hA1.fr hi hp) (by rw [hi 1 7 (by unfold scr; omega)]; exact q7) cw
      have s1 : ∀ c k, ¬ scr c k → gi H2 c k = gi G1 c k := fun c k z => ((Mg.of_q m1).sc c k z).trans (hi c k z)
      have s2 : ∀ c k, gp H2 c k = gp G1 c k := fun c k => (m1.2 c k).trans (hp c k)
      refine ⟨H2, Inv_scr s1 s2 hA1.1, m2, s1, s2, m3, fun y => ?_⟩
      have m5 := m4 y
      rw [s1 7 pn (by unfold scr; omega), s1 5 qn (by unfold scr; omega), s1 6 qn (by unfold scr; omega), gLa_fr s1 ln, UN_fr lc1 s1 s2] at m5
      exact m5
    have hag := age_C hA1 q7
    have hcl : f_Hall_ward G pn ln qn w = if (if 0 < (ev F qn 0 (tps F pn)).1 then (1 : Int) else 0) = 0 then some (-2, G1) else f_Hall_ward_L40 G1 pn ln qn w (if gi G1 7 pn < gi G1 5 qn + 360 * UN G1 r ln qn then 1 else 0) := by
      simp only [f_Hall_ward, if_neg (show ¬ w < 0 by omega), if_neg (show ¬ 5 < w by omega), hh, Option.bind_some, hag]
      by_cases d : gi G1 7 pn < gi G1 5 qn + 360 * UN G1 r ln qn
      · simp only [if_pos d, if_true]
      · simp only [if_neg d, if_neg (show ¬ (1 : Int) = 0 by decide)]
    by_cases y : 0 < (ev F qn 0 (tps F pn)).1
    · rw [if_pos y, if_neg (by decide)] at hcl
      by_cases d : gi G1 7 pn < gi G1 5 qn + 360 * UN G1 r ln qn
      · rw [if_pos d] at hcl
        have hwk : w = 0 ∨ w = 1 ∨ w = 2 ∨ w = 3 ∨ w = 4 ∨ w = 5 := by omega
        have wdC := wday_C hA1 q7
        have gq : (0 : Int) ≤ (qn : Int) ∧ (qn : Int) < 32 := by omega
        have gp2 : (0 : Int) ≤ (pn : Int) ∧ (pn : Int) < 32 := by omega
        obtain ⟨K, Gk, c1, c2, c3, c4, c5⟩ := kings hA1 hL
        rcases hwk with rfl | rfl | rfl | rfl | rfl | rfl
        · obtain ⟨H2, x1, x2, x3, x4, x5, x6⟩ := mod G1 (fun _ _ _ => rfl) (fun _ _ => rfl)
          have x7 := x6 y
          rw [if_pos rfl, if_pos d] at x7
          exact ⟨(1, G1), (1, H2), hcl, x7, rfl, x1⟩
        · obtain ⟨H2, x1, x2, x3, x4, x5, x6⟩ := mod G1 (fun _ _ _ => rfl) (fun _ _ => rfl)
          have x7 := x6 y
          rw [if_neg (by decide), if_pos d, if_pos rfl] at x7
          refine ⟨(wl (wr (gi G1 5 qn + 360 * UN G1 r ln qn)), G1), (_, H2), ?_, x7, rfl, x1⟩
          rw [hcl, f_Hall_ward_L40, if_neg (by decide), if_neg (by decide), if_pos rfl, gd, if_pos gq, wdC, Option.bind_some, Int.toNat_natCast]
        · obtain ⟨H2, x1, x2, x3, x4, x5, x6⟩ := mod G1 (fun _ _ _ => rfl) (fun _ _ => rfl)
          have x7 := x6 y
          rw [if_neg (by decide), if_pos d, if_neg (by decide), if_pos rfl] at x7
          refine ⟨(wl (wr (gi G1 6 qn + 360 * UN G1 r ln qn)), G1), (_, H2), ?_, x7, rfl, x1⟩
          rw [hcl, f_Hall_ward_L40, if_neg (by decide), if_neg (by decide), if_neg (by decide), if_pos rfl, gd, if_pos gq, wdC, Option.bind_some, Int.toNat_natCast]
        · obtain ⟨H2, x1, x2, x3, x4, x5, x6⟩ := mod Gk c3 c4
          have x7 := x6 y
          obtain ⟨G3, k1, k2⟩ := c5 H2 x3 x4
          rw [if_neg (by decide), if_pos d, if_neg (by decide), if_neg (by decide), if_pos rfl, k1, Option.bind_some] at x7
          have hAk := hA1.fr c3 c4
          have hA3 := k2.ask (hA1.fr x3 x4)
          have g1 := gu_C hAk (by rw [c3 1 7 (by unfold scr; omega)]; exact q7)
          have g2 := gu_M hA3 (by rw [k2.sc 1 7 (by unfold scr; omega), x3 1 7 (by unfold scr; omega)]; exact q7)
          rw [GU_fr lc1 c3 c4] at g1
          rw [GU_fr lc1 (fun c k z => (k2.sc c k z).trans (x3 c k z)) (fun c k => (k2.2 c k).trans (x4 c k))] at g2
          have hi3 := hA3.1
          have hcl2 : f_Hall_ward G pn ln qn 3 = if K = 0 then some (wl (GU G1 pn ln r qn), Gk) else some (-1, Gk) := by
            rw [hcl, f_Hall_ward_L40, if_neg (by decide), if_neg (by decide), if_neg (by decide), if_neg (by decide), if_pos rfl, c1, Option.bind_some]
            by_cases z : K = 0
            · rw [if_pos z, if_pos z, g1, Option.bind_some]
            · rw [if_neg z, if_neg z]
          by_cases z : K = 0
          · rw [if_pos z] at hcl2
            rw [if_pos z, g2, Option.bind_some] at x7
            exact ⟨_, _, hcl2, x7, rfl, hi3⟩
          · rw [if_neg z] at hcl2
            rw [if_neg z] at x7
            exact ⟨_, _, hcl2, x7, rfl, hi3⟩
        · obtain ⟨G2, s1, s2, s3, s4, s5, s6⟩ := part_eq (how := 0) hA.2.1 hA1.2.2.2.2.2.2.2.2.1 hL (q := qn) (by omega)
          obtain ⟨H2, x1, x2, x3, x4, x5, x6⟩ := mod G2 (fun c k _ => s2 c k) s3
          have x7 := x6 y
          rw [if_neg (by decide), if_pos d, if_neg (by decide), if_neg (by decide), if_neg (by decide), if_pos rfl, x2.1, x2.2] at x7
          have hA2 := hA1.fr (fun c k _ => s2 c k) s3
          have wd2 := wday_C hA2 (by rw [s2]; exact q7)
          rw [UN_fr lc1 (fun c k _ => s2 c k) s3] at wd2
          have wo := worth_C hA2.1.2.2.1 a1
          rw [gLa_fr (fun c k _ => s2 c k) ln] at wo
          have bd := ev_bd hA.2.1 qn 0 pn
          have hg := ev_2 hA.2.1 (q := qn) (way := 0) hA1.2.2.2.2.2.2.2.2.1
          have hmx : max 1 ((ev F qn 0 (tps F pn)).2 : Int) = ((ev F qn 0 (tps F pn)).2 : Int) := by have := hg.1.1; omega
          have hwb : wl (((ev F qn 0 (tps F pn)).2 : Int) * 360) = ((ev F qn 0 (tps F pn)).2 : Int) * 360 := wl_of (by omega) (by omega)
          have hday := hA1.2.2.2.2.2.2.2.1
          have hwr : wr (gi G1 5 qn + 360 * UN G1 r ln qn - gi G1 7 pn) = gi G1 5 qn + 360 * UN G1 r ln qn - gi G1 7 pn := wr_of (by omega) (by omega)
          have hwl : wl (gi G1 5 qn + 360 * UN G1 r ln qn - gi G1 7 pn) = gi G1 5 qn + 360 * UN G1 r ln qn - gi G1 7 pn := wl_of (by omega) (by omega)
          refine ⟨(_, G2), (_, H2), ?_, x7, rfl, x1⟩
          rw [hcl, f_Hall_ward_L40, if_neg (by decide), if_neg (by decide), if_neg (by decide), if_neg (by decide), if_neg (by decide), if_pos rfl, f_Hall_profit, s1, Option.bind_some, gd, if_pos gq, wd2, Option.bind_some, gd, if_pos gp2, f_Descent_partBelow, Option.bind_some, wo, Option.bind_some, f_Descent_partAbove, Option.bind_some, s5, s6, hmx, hwb, gd, if_pos (by have := hg.1.1; omega), Option.bind_some, Int.toNat_natCast, Int.toNat_natCast, s2, s2, hwr, hwl]
        · obtain ⟨H2, x1, x2, x3, x4, x5, x6⟩ := mod Gk c3 c4
          have x7 := x6 y
          obtain ⟨G3, k1, k2⟩ := c5 H2 x3 x4
          rw [if_neg (by decide), if_pos d, if_neg (by decide), if_neg (by decide), if_neg (by decide), if_neg (by decide), k1, Option.bind_some] at x7
          have hi3 := (k2.ask (hA1.fr x3 x4)).1
          have hcl2 : f_Hall_ward G pn ln qn 5 = if K = 0 then some (0, Gk) else some (1, Gk) := by
            rw [hcl, f_Hall_ward_L40, if_neg (by decide), if_neg (by decide), if_neg (by decide), if_neg (by decide), if_neg (by decide), if_neg (by decide), c1, Option.bind_some]
          by_cases z : K = 0
          · rw [if_pos z] at hcl2 x7
            exact ⟨_, _, hcl2, x7, rfl, hi3⟩
          · rw [if_neg z] at hcl2 x7
            exact ⟨_, _, hcl2, x7, rfl, hi3⟩
      · obtain ⟨H2, x1, x2, x3, x4, x5, x6⟩ := mod G1 (fun _ _ _ => rfl) (fun _ _ => rfl)
        have x7 := x6 y
        rw [if_neg d, if_neg d] at x7
        rw [if_neg d, f_Hall_ward_L40, if_pos rfl] at hcl
        by_cases z : w = 0
        · rw [if_pos z] at x7 hcl
          exact ⟨_, _, hcl, x7, rfl, x1⟩
        · rw [if_neg z] at x7 hcl
          exact ⟨_, _, hcl, x7, rfl, x1⟩
    · rw [if_neg y, if_pos rfl] at hcl
      obtain ⟨H2, x1, x2, x3, x4, x5, x6⟩ := mod G1 (fun _ _ _ => rfl) (fun _ _ => rfl)
      exact ⟨_, _, hcl, x5 y, rfl, x1⟩
  · refine ⟨(-2, G), (-2, G), ?_, ?_, rfl, hI⟩
    · by_cases a1 : w < 0
      · rw [f_Hall_ward, if_pos a1]
      by_cases a2 : 5 < w
      · rw [f_Hall_ward, if_neg a1, if_pos a2]
      rw [f_Hall_ward, if_neg a1, if_neg a2]
      have hh : f_Hall_isHeir G p l q = some (0, G) := by
        by_cases a3 : 0 ≤ q ∧ q < gi G 1 7
        · rw [if_pos a3] at hH
          rw [f_Hall_isHeir, hH, Option.bind_some, if_neg (by decide), layD_no hP (fun z => c ⟨z, a3, by omega⟩), Option.bind_some, if_pos rfl]
        · rw [if_neg a3] at hH
          rw [f_Hall_isHeir, hH, Option.bind_some, if_pos rfl]
      rw [hh, Option.bind_some, if_pos rfl]
    · show f_Model_ward G p l q w = _
      have hpe := isPerson_eq (G := G) q (by omega) (by omega)
      rw [e1] at hpe
      have hin := isIn_eq G w 0 5
      by_cases ca : (0 ≤ p ∧ p < gi G 1 7) ∧ gi G 7 p.toNat ≠ -1 ∧ (0 ≤ l ∧ l < gi G 9 5)
      · rw [f_Model_ward, ask_yes hI ca, Option.bind_some, if_neg (by decide), hpe, Option.bind_some]
        by_cases a3 : 0 ≤ q ∧ q < gi G 1 7
        · rw [if_neg (show ¬ (0 ≤ w ∧ w ≤ 5) from fun z => c ⟨ca, a3, z⟩)] at hin
          have hz : (if 0 ≤ q ∧ q < gi G 1 7 then (1 : Int) else 0) = 1 := if_pos a3
          rw [hz, if_neg (by decide), hin, Option.bind_some, if_pos rfl]
        · have hz : (if 0 ≤ q ∧ q < gi G 1 7 then (1 : Int) else 0) = 0 := if_neg a3
          rw [hz, if_pos rfl]
      · rw [f_Model_ward, ask_no hI ca, Option.bind_some, if_pos rfl]
