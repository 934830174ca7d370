/-! the step of relief -/
theorem relief_M {H : GS} {F : Fam} {p l r q : Nat} {ls : List (Int × Fm × Fm)} (hA : Asked H F p l r) (hq : (q : Int) < gi H 1 7) (hls : LawM H r ls) : ∃ H2, Inv H2 ∧ f_Model_relief H p l q = some (if 0 < (ev F q 0 (tps F p)).1 ∧ ¬ gi H 7 p < gi H 5 q + 360 * UN H r l q then max 0 (ls.foldl (linS (AV H F p l (some q))) (0, 0)).1 else -1, H2) := by
  obtain ⟨G2, r1, r2, r3⟩ := heir_M hA q
  obtain ⟨h1, h2, h3, h4, h5, h6⟩ := askR hA
  have hday := hA.2.2.2.2.2.2.2.1
  have e1 := (eqS_in hA.1.1).2.1
  have hcy : f_Model_canAsk H p l = some 1 := ask_yes hA.1 (by
    rw [Int.toNat_natCast]
    exact ⟨⟨by omega, h2⟩, by omega, by omega, hA.2.2.2.2.2.2.2.2.2⟩)
  have hpe := isPerson_eq (G := H) (q : Int) (by omega) (by omega)
  rw [e1, if_pos ⟨by omega, hq⟩] at hpe
  have m2 := Mg.of_q r2
  have hA2 := m2.ask hA
  have hq2 : (q : Int) < gi G2 1 7 := by rw [m2.sc 1 7 (by unfold scr; omega)]; exact hq
  have hwd := ward_M hA2 hq2
  rw [m2.sc 7 p (by unfold scr; omega), m2.sc 5 q (by unfold scr; omega), UN_fr (hA.1.2.2.2.2.2.2.2.2.1 r h6) m2.sc m2.2] at hwd
  by_cases y : 0 < (ev F q 0 (tps F p)).1
  · rw [if_pos y] at r1
    by_cases d : gi H 7 p < gi H 5 q + 360 * UN H r l q
    · rw [if_pos d] at hwd
      refine ⟨G2, hA2.1, ?_⟩
      rw [if_neg (fun z => z.2 d), f_Model_relief, hcy, Option.bind_some, if_neg (by decide), hpe, Option.bind_some, if_neg (by decide), r1, Option.bind_some, if_neg (show ¬ (1 : Int) = 0 by decide), hwd, Option.bind_some, if_neg (by decide)]
    · rw [if_neg d] at hwd
      obtain ⟨G3, v1, v2, v3⟩ := gath_M (o := some q) hA2 (fun x h => by have : q = x := Option.some.inj h; subst this; exact hq2)
      rw [AV_fr m2.sc] at v2
      have hA3 := v3.ask hA2
      have rm := reignM hA3
      obtain ⟨G4, k1, k2⟩ := relM_L (AV_wr (p := p) (l := l) (o := some q) hA.1.2.2.1 hA.2.1.1) h6 ls [] FU G3 (0, 0) (by have := hls.1; unfold FU; omega) (LawM_sc (fun c k z => (v3.sc c k z).trans (m2.sc c k z)) hls) v2
      have k1' : f_Model_relief_L64 FU G3 r 0 0 = some (max 0 (ls.foldl (linS (AV H F p l (some q))) (0, 0)).1, G4) := k1
      have v1' : f_Model_gathers G2 p l q = some G3 := v1
      refine ⟨G4, ((Mg.of_p k2).ask hA3).1, ?_⟩
      rw [if_pos ⟨y, d⟩, f_Model_relief, hcy, Option.bind_some, if_neg (by decide), hpe, Option.bind_some, if_neg (by decide), r1, Option.bind_some, if_neg (show ¬ (1 : Int) = 0 by decide), hwd, Option.bind_some, if_pos rfl, v1', Option.bind_some, gd, if_pos (by omega), Int.toNat_natCast, rm, Option.bind_some, k1']
  · rw [if_neg y] at r1
    refine ⟨G2, hA2.1, ?_⟩
    rw [if_neg (fun z => y z.1), f_Model_relief, hcy, Option.bind_some, if_neg (by decide), hpe, Option.bind_some, if_neg (by decide), r1, Option.bind_some, if_pos (show (0 : Int) = 0 from rfl)]
theorem step_relief : Step_relief Inv := by
  intro G p l q hp hl hq hI
  have hP := hI.2.1
  have k1 := hP.2.2.2.1
  have k0 := hP.2.2.1
  have e1 := (eqS_in hI.1).2.1
  have hH := has_eq G q
  by_cases c : ((0 ≤ p ∧ p < gi G 1 7) ∧ gi G 7 p.toNat ≠ -1 ∧ (0 ≤ l ∧ l < gi G 9 5)) ∧ (0 ≤ q ∧ q < gi G 1 7)
  · obtain ⟨c, cq⟩ := c
    obtain ⟨pn, rfl⟩ : ∃ k : Nat, p = k := ⟨p.toNat, by omega⟩
    obtain ⟨ln, rfl⟩ : ∃ k : Nat, l = k := ⟨l.toNat, by omega⟩
    obtain ⟨qn, rfl⟩ : ∃ k : Nat, q = k := ⟨q.toNat, by omega⟩
    rw [Int.toNat_natCast] at c
    obtain ⟨F, r, G1, h1, hA, hA1, hL, h2, h3, -⟩ := ask_in hI c.1.2 c.2.1 c.2.2.2
    rw [if_pos cq] at hH
    have hB := hA.2.2.1.1
    have q7 : (qn : Int) < gi G1 1 7 := by rw [h2 1 7 (by omega)]; exact cq.2
    have hh := heirH hH h1 hL (by omega) (by omega)
    obtain ⟨a1, a2, a3, a4, a5, a6⟩ := askR hA1
    have lc1 := hA1.1.2.2.2.2.2.2.2.2.1 r a6
    obtain ⟨ls, hls⟩ := law_ls hA1
    have hag := age_C hA1 q7
    have mod : ∀ Gf : GS, (∀ c k, ¬ scr c k → gi Gf c k = gi G1 c k) → (∀ c k, gp Gf c k = gp G1 c k) → ∃ H2, Inv H2 ∧ f_Model_relief Gf pn ln qn = some (if 0 < (ev F qn 0 (tps F pn)).1 ∧ ¬ gi G1 7 pn < gi G1 5 qn + 360 * UN G1 r ln qn then max 0 (ls.foldl (linS (AV G1 F pn ln (some qn))) (0, 0)).1 else -1, H2) := by
      intro Gf hi hp
      obtain ⟨H2, m1, m2⟩ := relief_M (q := qn) (hA1.fr hi hp) (by rw [hi 1 7 (by unfold scr; omega)]; exact q7) (LawM_sc hi hls.1)
      rw [hi 7 pn (by unfold scr; omega), hi 5 qn (by unfold scr; omega), UN_fr lc1 hi hp, AV_fr hi] at m2
      exact ⟨H2, m1, m2⟩
    by_cases y : 0 < (ev F qn 0 (tps F pn)).1
    · rw [if_pos y] at hh
      by_cases d : gi G1 7 pn < gi G1 5 qn + 360 * UN G1 r ln qn
      · obtain ⟨H2, m1, m2⟩ := mod G1 (fun _ _ _ => rfl) (fun _ _ => rfl)
        rw [if_neg (fun z => z.2 d)] at m2
        rw [if_pos d] at hag
        refine ⟨(-1, G1), _, ?_, m2, rfl, m1⟩
        rw [f_Hall_relief, hh, Option.bind_some, if_neg (show ¬ (1 : Int) = 0 by decide), hag, Option.bind_some, if_pos rfl]
      · rw [if_neg d] at hag
        obtain ⟨G2, s1, s2, s3, s4, s5, s6⟩ := part_eq (how := 0) hA.2.1 hA1.2.2.2.2.2.2.2.2.1 hL (q := qn) (by omega)
        obtain ⟨Gb, Gc, b1, b2, b3, b4, b5, ci, cp⟩ := rek_C (o := some qn) hA1 hls (fun c k _ => s2 c k) s3 s4 (fun x h => by have e : qn = x := Option.some.inj h; subst e; exact ⟨q7, s5, s6⟩)
        obtain ⟨H2, m1, m2⟩ := mod Gc ci cp
        rw [if_pos ⟨y, d⟩] at m2
        have b1' : f_Hall_ask G2 pn ln qn = some Gb := b1
        refine ⟨(max 0 (ls.foldl (linS (AV G1 F pn ln (some qn))) (0, 0)).1, Gc), _, ?_, m2, rfl, m1⟩
        rw [f_Hall_relief, hh, Option.bind_some, if_neg (show ¬ (1 : Int) = 0 by decide), hag, Option.bind_some, if_neg (by decide), s1, Option.bind_some, b1', Option.bind_some, gd, if_pos (by omega), Int.toNat_natCast, b2, Option.bind_some, b3, Option.bind_some, b4]
    · rw [if_neg y] at hh
      obtain ⟨H2, m1, m2⟩ := mod G1 (fun _ _ _ => rfl) (fun _ _ => rfl)
      rw [if_neg (fun z => y z.1)] at m2
      refine ⟨(-1, G1), _, ?_, m2, rfl, m1⟩
      rw [f_Hall_relief, hh, Option.bind_some, if_pos (show (0 : Int) = 0 from rfl)]
  · refine ⟨(-1, G), (-1, G), ?_, ?_, rfl, hI⟩
    · have hh : f_Hall_isHeir G p l q = some (0, G) := by
        by_cases a3 : 0 ≤ q ∧ q < gi G 1 7
        · rw [if_pos a3] at hH
          rw [f_Hall_isHeir, hH, Option.bind_some, if_neg (by decide), layD_no hP (fun z => c ⟨z, a3⟩), Option.bind_some, if_pos rfl]
        · rw [if_neg a3] at hH
          rw [f_Hall_isHeir, hH, Option.bind_some, if_pos rfl]
      rw [f_Hall_relief, hh, Option.bind_some, if_pos rfl]
    · show f_Model_relief G p l q = _
      have hpe := isPerson_eq (G := G) q (by omega) (by omega)
      rw [e1] at hpe
      by_cases ca : (0 ≤ p ∧ p < gi G 1 7) ∧ gi G 7 p.toNat ≠ -1 ∧ (0 ≤ l ∧ l < gi G 9 5)
      · rw [if_neg (show ¬ (0 ≤ q ∧ q < gi G 1 7) from fun z => c ⟨ca, z⟩)] at hpe
        rw [f_Model_relief, ask_yes hI ca, Option.bind_some, if_neg (by decide), hpe, Option.bind_some, if_pos rfl]
      · rw [f_Model_relief, ask_no hI ca, Option.bind_some, if_pos rfl]
