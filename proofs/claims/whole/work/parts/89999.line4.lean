/-! lines with formulas: relief, king -/
theorem RC.cw {G : GS} {c : Nat} {B : Nat → Int} {L i q : Nat} {cd : List Int} {v : LVs} (hi : cd.length + 1 ≤ i) (h : RC G c B L i q cd v) : CW G c B L i q cd := ⟨h.1, h.2.1, h.2.2.1, h.2.2.2.1, h.2.2.2.2.1, hi⟩
theorem put_any {G : GS} {c : Nat} {v : Int} (hc : lawC c = true) (h0 : 0 ≤ gi G c 9) : ∃ G', f_Law_put G c v = some G' ∧ FL G G' c ∧ gi G' 15 8 = gi G 15 8 ∧ gi G' 15 9 = gi G 15 9 := by
  have hr := law_rng hc
  by_cases z : 800 ≤ gi G c 9
  · exact ⟨G, by rw [f_Law_put, if_pos z], FL.rfl', rfl, rfl⟩
  · have e9 : gi G c 9 = ((gi G c 9).toNat : Nat) := by omega
    refine ⟨_, put_L e9 (by omega), FL_lp, ?_, ?_⟩
    · rw [gi_ne (by omega), gi_ne (by omega)]
    · rw [gi_ne (by omega), gi_ne (by omega)]
/-- the last word of a line with a formula -/
theorem put_RC {G : GS} {c : Nat} {B : Nat → Int} {L i q : Nat} {cd : List Int} {v : LVs} {w : Int} (hc : lawC c = true) (hw : wr w = w) (h : CW G c B L i q cd) (hv : CV G c v) : ∃ G', f_Law_put G c w = some G' ∧ FL G G' c ∧ RC G' c B L i q (cd ++ [w]) v := by
  have hr := law_rng hc
  obtain ⟨hA, h8, h1, h9, h5, hi⟩ := h
  have hi8 := (atC_hd hA).1
  refine ⟨_, put_L h9 (by omega), FL_lp, atC_fr (by rw [gi_ne (by omega), gi_ne (by omega)]) (by rw [gi_ne (by omega), gi_ne (by omega)]) (fun x k z1 z2 => by rw [gi_ne (by omega), gi_ne (by omega)]) hA, by rw [gi_ne (by omega), gi_ne (by omega)]; exact h8, h1, ?_, Ar_fr (fun j _ => by rw [gi_ne (by omega)]) (Ar_push rfl hw h5), by rw [List.length_append]; simp only [List.length_singleton]; omega, CV_fr (fun x k hx => by rw [gi_si, if_neg (by omega), gi_ne (by omega)]) hv⟩
  rw [gi_sm, if_pos rfl, List.length_append, wr_of (by omega) (by omega)]
  simp
theorem CV_FL {G G' : GS} {c : Nat} {v : LVs} (hc : lawC c = true) (h : FL G G' c) (hv : CV G c v) : CV G' c v := by
  have hr := law_rng hc
  exact CV_fr (fun x k hx => h.1 x k (by omega) (by omega) (by omega) (by omega) (by omega)) hv
theorem eff_89 {s : Int} {w : Wdd} {v : LVs} (h : 8 ≤ s) : eff s w v = v := by
  unfold eff
  rw [if_neg (show ¬ s = 3 by omega), if_neg (show ¬ s = 4 by omega), if_neg (show ¬ s = 5 by omega), if_neg (show ¬ s = 6 by omega), if_neg (show ¬ s = 7 by omega)]
theorem goodW_89 {s : Int} {w : Wdd} (h : 8 ≤ s) : goodW s w := ⟨fun z => absurd z (by omega), fun z => absurd z (by omega), fun z => absurd z (by omega), fun z => absurd z (by omega)⟩
theorem okL8 {E F : Fm} (h1 : typF E [] = some [false]) (h2 : F = [] ∨ typF F [] = some [true]) (h3 : okV (E ++ F)) : okL (8, E, F) := ⟨(show (3 : Int) ≤ 8 ∧ (8 : Int) ≤ 9 by decide), fun _ => ⟨h1, h2⟩, fun z => absurd (show (8 : Int) = 9 from z) (by decide), fun z => absurd (show (8 : Int) < 8 from z) (by decide), h3⟩
theorem okL9 {F : Fm} (h1 : typF F [] = some [true]) (h3 : okV F) : okL (9, [], F) := ⟨(show (3 : Int) ≤ 9 ∧ (9 : Int) ≤ 9 by decide), fun z => absurd (show (9 : Int) = 8 from z) (by decide), fun _ => ⟨rfl, h1⟩, fun z => absurd (show (9 : Int) < 8 from z) (by decide), h3⟩
theorem relief_B {c : Nat} {B : Nat → Int} {L i q m : Nat} {G H : GS} {cd : List Int} {st : Fm} {v : LVs} (hc : lawC c = true) (hL : L ≤ 800) (h : RC G c B L i q cd v) (hM : MS H B L q 0 st) (h41 : gi H 81 41 = m) (hm : m < 30) (hi : cd.length + 1 ≤ i) (hst : st.length ≤ i) : LOk c B L G H i m cd st v 8 (f_LawReader_reliefLine G) (f_Model_inner H 8) ∨ LBad c G H m (f_LawReader_reliefLine G) (f_Model_inner H 8) := by
  have hr := law_rng hc
  have hq := h.1.2.2.1
  have g : ∀ (K : GS) (x : Option (Int × GS)), gi K 81 41 = m → gd (0 ≤ gi K 81 41 ∧ gi K 81 41 < 30) x = x := fun K x hK => by rw [gd, if_pos (by omega)]
  have er : f_Model_inner H 8 = (f_Model_sumOfC H).bind fun q9 => if q9.1 = 0 then some (0, q9.2) else if gi (si q9.2 115 m (gi q9.2 81 42)) 81 45 = 15 then (f_Model_next0 (si q9.2 115 m (gi q9.2 81 42))).bind fun q10 => (f_Model_any q10).bind fun q11 => some (q11.1, q11.2) else some (1, si q9.2 115 m (gi q9.2 81 42)) := by
    rw [f_Model_inner, if_neg (show ¬ (8 : Int) = 3 by decide), if_neg (show ¬ (8 : Int) = 4 by decide), if_neg (show ¬ (8 : Int) = 5 by decide), if_neg (show ¬ (8 : Int) = 6 by decide), if_neg (show ¬ (8 : Int) = 7 by decide), if_pos (show (8 : Int) = 8 from rfl), h41]
    congr 1
    funext q9
    split
    · rfl
    · rw [gd, if_pos (by omega)]
      rfl
  rw [er, f_LawReader_reliefLine]
  rcases form_num hc hL (h.cw hi) hM hst with ⟨G1, H1, i1, q1, E, a1, a2, a3, a4, a5, a6, a7, a8, a9⟩ | ⟨G1, H1, k, x, a1, a2, a3, a4, a5⟩
  · have hv1 := CV_FL hc a3 h.2.2.2.2.2.2
    have hA1 := a4.1
    have hi1 := (atC_hd hA1).1
    have hq1 := hA1.2.2.1
    have e42 : gi H1 81 42 = ((st ++ E).length : Nat) := a6.2.2.1
    have t15 := mLi (a := 126) (b := 15) (by decide +kernel) B L q1
    rw [a1, Option.bind_some, a2, Option.bind_some, if_neg (n10 H1), takeIf_at hA1 a4.2.1 (by decide), Option.bind_some]
    dsimp only
    have hM2 : MS (si H1 115 m (gi H1 81 42)) B L q1 0 (st ++ E) := MS_si (by decide) a6
    have hF2 : FRm H (si H1 115 m (gi H1 81 42)) m := (a5.frm).trans (FRm_si (by decide))
    have w3 : gi (si H1 115 m (gi H1 81 42)) 115 m = st.length + E.length := by rw [gi_sm, if_pos rfl, e42, List.length_append, wr_of (by omega) (by omega)]; simp
    generalize si H1 115 m (gi H1 81 42) = H2 at *
    have w45 := hM2.1.2.1
    by_cases c1 : kC B L q1 = 126
    · have lq1 : q1 < L := kC_lt (B := B) (by omega)
      have l2 := nq_le (B := B) lq1
      obtain ⟨H3, d1, d2, d3⟩ := next_at hM2.1 lq1
      have hM3 := MS_Mx d3 d2 hM2
      have hW2 : CW (stp G1 i1) c B L (i1 + 1) (nq B L q1) (cd ++ clsF E) := ⟨stp_at hA1 lq1, by rw [stp_gi (by omega)]; exact a4.2.1, a4.2.2.1, by rw [stp_gi (by omega)]; exact a4.2.2.2.1, Ar_fr (fun j _ => stp_gi (by omega)) a4.2.2.2.2.1, by have := a4.2.2.2.2.2; omega⟩
      have hv2 : CV (stp G1 i1) c v := CV_FL hc FL_stp hv1
      rw [if_pos c1, if_neg (n10 (stp G1 i1)), if_pos (w45.trans (t15.2 c1)), d1, Option.bind_some]
      rcases form_cond hc hL hW2 hM3 (by rw [List.length_append]; omega) with ⟨G4, H4, i4, q4, F, b1, b2, b3, b4, b5, b6, b7, b8, b9⟩ | ⟨G4, H4, k, x, b1, b2, b3, b4, b5⟩
      · left
        obtain ⟨G5, s1, s2, s3⟩ := put_RC (w := -126) hc (by decide) b4 (CV_FL hc b3 hv2)
        have hFn : F ≠ [] := fun z => by rw [z] at b8; exact absurd b8 (by decide)
        have hg4 : gp G4 21 1 = c := b4.2.2.1
        refine ⟨G5, H4, i4, q4, E, F, ?_, ?_, (a3.trans (FL_stp.trans (b3.trans s2))).fw, hF2.trans ((FRm_Mx d2).trans b5.frm), ?_, by rw [← List.append_assoc]; exact b6, ?_, goodW_89 (by decide), okL8 a8 (Or.inr b8) (okV_app a7 b7), by rw [List.length_append]; omega⟩
        · rw [b1, Option.bind_some, gd, if_pos (by rw [hg4]; exact hc), hg4, s1]; rfl
        · rw [b2]; rfl
        · rw [eff_89 (by decide)]
          have : cd ++ clsL' (8, E, F) = cd ++ clsF E ++ clsF F ++ [-126] := by
            unfold clsL'
            rw [if_pos rfl]
            dsimp only
            rw [if_neg hFn]
            simp only [List.append_assoc]
          rw [this]
          exact s3
        · rw [b5.1 115 m (by omega) (by decide), d2.1 115 m (by omega)]; exact w3
      · right
        obtain ⟨f1, f2, f3, f4⟩ := b3
        obtain ⟨G5, s1, s2, s3, s4⟩ := put_any (v := -126) hc f4
        have hg4 : gp G4 21 1 = c := by rw [f1.2]; exact hW2.2.2.1
        refine ⟨G5, H4, k, x, ?_, by rw [b2]; rfl, (a3.trans (FL_stp.trans (f1.trans s2))).fw, s3.trans f2, s4.trans f3, hF2.trans ((FRm_Mx d2).trans b4.1.frm), b4.2.1, b4.2.2, b5⟩
        rw [b1, Option.bind_some, gd, if_pos (by rw [hg4]; exact hc), hg4, s1]; rfl
    · left
      rw [if_neg c1, if_pos rfl, if_neg (fun z => c1 (t15.1 (w45.symm.trans z)))]
      obtain ⟨G5, s1, s2, s3⟩ := put_RC (w := -120) hc (by decide) a4 hv1
      have hg1 : gp G1 21 1 = c := a4.2.2.1
      refine ⟨G5, H2, i1, q1, E, [], ?_, rfl, (a3.trans s2).fw, hF2, ?_, by rw [List.append_nil]; exact hM2, w3, goodW_89 (by decide), okL8 a8 (Or.inl rfl) (by rw [List.append_nil]; exact a7), by rw [List.append_nil]; omega⟩
      · rw [gd, if_pos (by rw [hg1]; exact hc), hg1, s1]; rfl
      · rw [eff_89 (by decide)]
        have : cd ++ clsL' (8, E, []) = cd ++ clsF E ++ [-120] := by
          unfold clsL'
          rw [if_pos rfl]
          dsimp only
          rw [if_pos rfl]
          simp only [List.append_assoc]
        rw [this]
        exact s3
  · right
    obtain ⟨f1, f2, f3, f4⟩ := a3
    obtain ⟨G5, s1, s2, s3, s4⟩ := put_any (v := -120) hc f4
    have hg1 : gp G1 21 1 = c := by rw [f1.2]; exact h.2.2.1
    refine ⟨G5, H1, k, x, ?_, by rw [a2]; rfl, (f1.trans s2).fw, s3.trans f2, s4.trans f3, a4.1.frm, a4.2.1, a4.2.2, a5⟩
    rw [a1, Option.bind_some, takeIf_no (by rw [f2]; omega), Option.bind_some, if_pos rfl, gd, if_pos (by rw [hg1]; exact hc), hg1, s1]; rfl
theorem king_B {c : Nat} {B : Nat → Int} {L i q m : Nat} {G H : GS} {cd : List Int} {st : Fm} {v : LVs} (hc : lawC c = true) (hL : L ≤ 800) (h : RC G c B L i q cd v) (hM : MS H B L q 0 st) (hm : m < 30) (h115 : gi H 115 m = st.length) (hi : cd.length + 1 ≤ i) (hst : st.length ≤ i) : LOk c B L G H i m cd st v 9 (f_LawReader_kingLine G) (f_Model_inner H 9) ∨ LBad c G H m (f_LawReader_kingLine G) (f_Model_inner H 9) := by
  have hr := law_rng hc
  have hA := h.1
  have hq := hA.2.2.1
  have hi8 := (atC_hd hA).1
  have t15 := mLi (a := 126) (b := 15) (by decide +kernel) B L q
  obtain ⟨p1, p2⟩ := need_at (a := 15) hM.1 (by decide)
  have er : f_Model_inner H 9 = (f_Model_need H 15).bind fun q12 => if q12.1 = 0 then some (0, q12.2) else (f_Model_any q12.2).bind fun q13 => if q13.1 = 0 then some (0, q13.2) else some (1, q13.2) := by
    rw [f_Model_inner, if_neg (show ¬ (9 : Int) = 3 by decide), if_neg (show ¬ (9 : Int) = 4 by decide), if_neg (show ¬ (9 : Int) = 5 by decide), if_neg (show ¬ (9 : Int) = 6 by decide), if_neg (show ¬ (9 : Int) = 7 by decide), if_neg (show ¬ (9 : Int) = 8 by decide)]
  rw [er, f_LawReader_kingLine, take_at hA h.2.1 (by decide), Option.bind_some]
  by_cases c1 : kC B L q = 126
  · obtain ⟨H1, e1, e2, e3⟩ := p1 (t15.2 c1)
    have lq : q < L := kC_lt (B := B) (by omega)
    have hR1 := RC_stp hc lq h
    have hM1 := MS_Mx e3 e2 hM
    rw [if_pos c1, e1, Option.bind_some, if_neg (n10 H1)]
    rcases form_cond hc hL (hR1.cw (by omega)) hM1 (by omega) with ⟨G4, H4, i4, q4, F, b1, b2, b3, b4, b5, b6, b7, b8, b9⟩ | ⟨G4, H4, k, x, b1, b2, b3, b4, b5⟩
    · left
      obtain ⟨G5, s1, s2, s3⟩ := put_RC (w := -114) hc (by decide) b4 (CV_FL hc b3 hR1.2.2.2.2.2.2)
      have hg4 : gp G4 21 1 = c := b4.2.2.1
      refine ⟨G5, H4, i4, q4, [], F, ?_, ?_, (FL_stp.trans (b3.trans s2)).fw, (FRm_Mx e2).trans b5.frm, ?_, by rw [List.nil_append]; exact b6, ?_, goodW_89 (by decide), okL9 b8 b7, by rw [List.nil_append]; omega⟩
      · rw [b1, Option.bind_some, gd, if_pos (by rw [hg4]; exact hc), hg4, s1]; rfl
      · rw [b2, Option.bind_some, if_neg (n10 H4)]
      · rw [eff_89 (by decide)]
        have : cd ++ clsL' (9, [], F) = cd ++ clsF F ++ [-114] := by
          unfold clsL'
          rw [if_neg (show ¬ (9 : Int) = 8 by decide), if_pos (show (9 : Int) = 9 from rfl)]
          simp only [List.append_assoc]
        rw [this]
        exact s3
      · rw [b5.1 115 m (by omega) (by decide), e2.1 115 m (by omega), h115]; simp
    · right
      obtain ⟨f1, f2, f3, f4⟩ := b3
      obtain ⟨G5, s1, s2, s3, s4⟩ := put_any (v := -114) hc f4
      have hg4 : gp G4 21 1 = c := by rw [f1.2]; exact hR1.2.2.1
      refine ⟨G5, H4, k, x, ?_, by rw [b2]; rfl, (FL_stp.trans (f1.trans s2)).fw, s3.trans f2, s4.trans f3, (FRm_Mx e2).trans b4.1.frm, b4.2.1, b4.2.2, b5⟩
      rw [b1, Option.bind_some, gd, if_pos (by rw [hg4]; exact hc), hg4, s1]; rfl
  · right
    have hf := flt_89 (G := G) (q := q) (k := 1) (by decide) (by omega)
    have h9 : gi (flt G 1 q) c 9 = (cd.length : Nat) := by rw [flt_gi (by omega)]; exact h.2.2.2.1
    rw [if_neg c1, p2 (fun z => c1 (t15.1 z))]
    obtain ⟨G4, r1, f1, f2, f3, f4⟩ := form_no (a := 1) hc (Or.inr rfl) hf.1 hf.2 (by decide) h.2.2.1 (by omega) (by omega)
    obtain ⟨G5, s1, s2, s3, s4⟩ := put_any (v := -114) hc f4
    have hg4 : gp G4 21 1 = c := by rw [f1.2]; exact h.2.2.1
    refine lbad (G' := G5) (by decide) (by omega) ?_ rfl ((FW_flt (by decide)).trans (f1.trans s2).fw) ⟨s3.trans f2, s4.trans f3⟩ ⟨fun _ _ _ _ _ => rfl, fun _ _ => rfl⟩
    rw [r1, Option.bind_some, gd, if_pos (by rw [hg4]; exact hc), hg4, s1]; rfl
