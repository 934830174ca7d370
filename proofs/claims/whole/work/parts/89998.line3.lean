theorem dower_B {c : Nat} {B : Nat → Int} {L i q m : Nat} {G H : GS} {cd : List Int} {st : Fm} {v : LVs} (hc : lawC c = true) (hL : L ≤ 800) (h : RC G c B L i q cd v) (hM : MS H B L q 0 st) (h41 : gi H 81 41 = m) (hm : m < 30) (h115 : gi H 115 m = st.length) : LOk c B L G H i m cd st v 5 (f_LawReader_dowerLine G) (f_Model_inner H 5) ∨ LBad c G H m (f_LawReader_dowerLine G) (f_Model_inner H 5) := by
  have hr := law_rng hc
  have f91 : ∀ (F : GS) (j x : Nat), atC F B L j x → gi F 15 8 ≠ 0 → gp F 21 1 = c → f_LawReader_dowerLine_L91 F = some (si F c 5 (vC B L x)) := by
    intro F j x ha hn hg
    rw [f_LawReader_dowerLine_L91, gd, if_pos (by rw [hg]; exact hc), num_no ha hn, Option.bind_some, hg]
    rfl
  have f57 : ∀ (F : GS) (j x : Nat) (s : Int), atC F B L j x → gi F 15 8 ≠ 0 → gp F 21 1 = c → f_LawReader_dowerLine_L57 F s = some (si F c 5 (vC B L x)) := by
    intro F j x s ha hn hg
    rw [f_LawReader_dowerLine_L57, if_neg hn, f91 F j x ha hn hg]
  have frest : ∀ (F : GS) (j x : Nat), atC F B L j x → gi F 15 8 ≠ 0 → gp F 21 1 = c → ((f_Text_value F).bind fun q3 => if q3 = 0 then f_LawReader_dowerLine_L52 F else (f_Text_value F).bind fun q4 => gd (lawC (gp F 21 1) = true) (if gi F (gp F 21 1) 4 ≤ q4 then f_LawReader_dowerLine_L57 F 0 else f_LawReader_dowerLine_L52 F)) = some (si F c 5 (vC B L x)) := by
    intro F j x ha hn hg
    rw [value_at ha, Option.bind_some, Option.bind_some]
    by_cases z : vC B L x = 0
    · rw [if_pos z, f_LawReader_dowerLine_L52, f57 F j x 1 ha hn hg]
    · rw [if_neg z, gd, if_pos (by rw [hg]; exact hc)]
      split
      · exact f57 F j x 0 ha hn hg
      · rw [f_LawReader_dowerLine_L52, f57 F j x 1 ha hn hg]
  have hA := h.1
  have h8 := h.2.1
  have hq := hA.2.2.1
  have hgp := h.2.2.1
  have t2 := mLi (a := 2) (b := 2) (by decide +kernel) B L q
  have vb := vC_b B L q
  obtain ⟨n1, n2, n3⟩ := num_M (a := 0) (m := 99999) hM.1
  rw [f_LawReader_dowerLine, gd, if_pos (by rw [hgp]; exact hc), num_at hA h8, Option.bind_some, hgp, f_Model_inner, if_neg (show ¬ (5 : Int) = 3 by decide), if_neg (show ¬ (5 : Int) = 4 by decide), if_pos (show (5 : Int) = 5 from rfl), h41]
  dsimp only [wG]
  by_cases c1 : kC B L q = 2
  · rw [if_pos c1, if_pos vb.2]
    obtain ⟨H1, e1, e2, e3⟩ := n1 (t2.2 c1) vb
    have lq : q < L := kC_lt (B := B) (by omega)
    have l1 := nq_le (B := B) lq
    have hR1 := RC_stp hc lq h
    have hM1 : MS H1 B L (nq B L q) 0 st := MS_Mx e3 e2 (MS_54 hM)
    have g54 : gi H1 81 54 = vC B L q := by rw [e2.1 81 54 (by omega), gi_si, if_pos ⟨rfl, rfl⟩]; exact wr_of (by omega) (by omega)
    have g115 : gi H1 115 m = st.length := by rw [e2.1 115 m (by omega), gi_ne (by decide)]; exact h115
    have hF1 : FRm H H1 m := FRm_54.trans (FRm_Mx e2)
    rw [e1, Option.bind_some, if_neg (n10 H1), gd, if_pos (by omega)]
    dsimp only [Int.toNat_natCast]
    rw [g54]
    generalize hx : vC B L q = X at *
    have hM2 : MS (si H1 109 m X) B L (nq B L q) 0 st := MS_si (by decide) hM1
    have hF2 : FRm H (si H1 109 m X) m := hF1.trans (FRm_si (by decide))
    have w1 : gi (si H1 109 m X) 109 m = X := by rw [gi_sm, if_pos rfl]; exact wr_of (by omega) (by omega)
    have w3 : gi (si H1 109 m X) 115 m = st.length := by rw [gi_ne (by decide)]; exact g115
    generalize si H1 109 m X = H2 at *
    have hR2 : RC (si (stp G i) c 4 X) c B L (i + 1) (nq B L q) cd (v.1, v.2.1, v.2.2.1, v.2.2.2.1, X, v.2.2.2.2.2) := by
      refine RC_si hc (by omega) hR1 ?_
      obtain ⟨x1, x2, x3, x4, x5, x6⟩ := hR1.2.2.2.2.2.2
      refine ⟨fun j hj => by rw [gi_ne (by omega)]; exact x1 j hj, fun u hu => by rw [gi_ne (by omega), gi_ne (by omega), gi_ne (by omega)]; exact x2 u hu, ?_, ?_, ?_, ?_⟩
      · rw [gi_sm, if_pos rfl]; exact wr_of (by omega) (by omega)
      · rw [gi_sm, if_neg (by decide)]; exact x4
      · rw [gi_sm, if_neg (by decide)]; exact x5
      · rw [gi_sm, if_neg (by decide)]; exact x6
    have hFW2 : FW G (si (stp G i) c 4 X) c := FW_stp.trans (FW_si (by omega))
    have lq1 := hR2.1.2.2.1
    generalize si (stp G i) c 4 X = G2 at *
    generalize nq B L q = q1 at *
    have t14 := mLi (a := 125) (b := 14) (by decide +kernel) B L q1
    obtain ⟨p1, p2⟩ := need_at (a := 14) hM2.1 (by decide)
    rw [take_at hR2.1 hR2.2.1 (by decide), Option.bind_some]
    by_cases c2 : kC B L q1 = 125
    · rw [if_pos c2]
      obtain ⟨H3, d1, d2, d3⟩ := p1 (t14.2 c2)
      have lq1' : q1 < L := kC_lt (B := B) (by omega)
      have l2 := nq_le (B := B) lq1'
      have hR3 := RC_stp hc lq1' hR2
      have hM3 := MS_Mx d3 d2 hM2
      have hF3 : FRm H H3 m := hF2.trans (FRm_Mx d2)
      have y1 : gi H3 109 m = X := by rw [d2.1 109 m (by omega)]; exact w1
      have y3 : gi H3 115 m = st.length := by rw [d2.1 115 m (by omega)]; exact w3
      have hFW3 : FW G (stp G2 (i + 1)) c := hFW2.trans FW_stp
      have hx4 : gi (stp G2 (i + 1)) c 4 = X := hR3.2.2.2.2.2.2.2.2.1
      have hg3 : gp (stp G2 (i + 1)) 21 1 = c := hR3.2.2.1
      rw [d1, Option.bind_some, if_neg (n10 H3), gd, if_pos (by omega)]
      have lq2 := hR3.1.2.2.1
      generalize stp G2 (i + 1) = G3 at *
      generalize nq B L q1 = q2 at *
      have t2' := mLi (a := 2) (b := 2) (by decide +kernel) B L q2
      have vb' := vC_b B L q2
      -- the reference: one range
      have fin : ∀ lo : Int, (∀ y : Int, lo ≤ y ↔ (1 ≤ y ∧ X ≤ y)) → LOk c B L G H i m cd st v 5 ((f_Text_value G3).bind fun q3 => if q3 = 0 then f_LawReader_dowerLine_L52 G3 else (f_Text_value G3).bind fun q4 => gd (lawC (gp G3 21 1) = true) (if gi G3 (gp G3 21 1) 4 ≤ q4 then f_LawReader_dowerLine_L57 G3 0 else f_LawReader_dowerLine_L52 G3)) (f_Model_inner_L170 H3 m lo) ∨ LBad c G H m ((f_Text_value G3).bind fun q3 => if q3 = 0 then f_LawReader_dowerLine_L52 G3 else (f_Text_value G3).bind fun q4 => gd (lawC (gp G3 21 1) = true) (if gi G3 (gp G3 21 1) 4 ≤ q4 then f_LawReader_dowerLine_L57 G3 0 else f_LawReader_dowerLine_L52 G3)) (f_Model_inner_L170 H3 m lo) := by
        intro lo hlow
        obtain ⟨m1, m2, m3⟩ := num_M (a := lo) (m := 99999) hM3.1
        rw [value_at hR3.1, Option.bind_some, Option.bind_some]
        by_cases c3 : kC B L q2 = 2
        · by_cases c4 : 1 ≤ vC B L q2 ∧ X ≤ vC B L q2
          · left
            obtain ⟨H4, b1, b2, b3⟩ := m1 (t2'.2 c3) ⟨(hlow _).2 c4, vb'.2⟩
            have lq2' : q2 < L := kC_lt (B := B) (by omega)
            have hR4 := RC_stp hc lq2' hR3
            have hM4 : MS H4 B L (nq B L q2) 0 st := MS_Mx b3 b2 (MS_54 hM3)
            have k54 : gi H4 81 54 = vC B L q2 := by rw [b2.1 81 54 (by omega), gi_si, if_pos ⟨rfl, rfl⟩]; exact wr_of (by omega) (by omega)
            have e91 : f_LawReader_dowerLine_L91 G3 = some (si (stp G3 (i + 1 + 1)) c 5 (vC B L q2)) := by
              rw [f_LawReader_dowerLine_L91, gd, if_pos (by rw [hg3]; exact hc), num_at hR3.1 hR3.2.1, Option.bind_some, if_pos c3, if_pos vb'.2, hg3]
              rfl
            have e57 : f_LawReader_dowerLine_L57 G3 0 = some (si (stp G3 (i + 1 + 1)) c 5 (vC B L q2)) := by
              rw [f_LawReader_dowerLine_L57, if_pos hR3.2.1, kind_at hR3.1, Option.bind_some, if_pos c3, if_pos rfl, e91]
            rw [if_neg (by omega), gd, if_pos (by rw [hg3]; exact hc), hg3, hx4, if_pos c4.2, e57, f_Model_inner_L170, b1, Option.bind_some, if_neg (n10 H4), gd, if_pos (by omega), k54]
            have hgi : ∀ x k, ¬ (x = 110 ∧ k = m) → x ≠ 81 → gi (si H4 110 m (vC B L q2)) x k = gi H3 x k := fun x k z1 z2 => by rw [gi_si, if_neg z1, b2.1 x k (by omega), gi_ne z2]
            have hw : wF (si H4 110 m (vC B L q2)) m = (X, vC B L q2, gi H3 111 m, gi H3 112 m) := by
              unfold wF
              rw [hgi 109 m (by omega) (by decide), hgi 111 m (by omega) (by decide), hgi 112 m (by omega) (by decide), y1, gi_sm, if_pos rfl, wr_of (by omega) (by omega)]
            refine ⟨si (stp G3 (i + 1 + 1)) c 5 (vC B L q2), si H4 110 m (vC B L q2), i + 1 + 1 + 1, nq B L q2, [], [], rfl, rfl, hFW3.trans (FW_stp.trans (FW_si (by omega))), hF3.trans (FRm_54.trans ((FRm_Mx b2).trans (FRm_si (by decide)))), ?_, ?_, ?_, ?_, okL0 (by decide), by simp only [List.append_nil, List.length_nil]; omega⟩
            · rw [cls0 (by decide), List.append_nil, hw]
              refine RC_si hc (by omega) hR4 ?_
              obtain ⟨x1, x2, x3, x4, x5, x6⟩ := hR4.2.2.2.2.2.2
              refine ⟨fun j hj => by rw [gi_ne (by omega)]; exact x1 j hj, fun u hu => by rw [gi_ne (by omega), gi_ne (by omega), gi_ne (by omega)]; exact x2 u hu, ?_, ?_, ?_, ?_⟩
              · rw [gi_sm, if_neg (by decide)]; exact x3
              · rw [gi_sm, if_pos rfl]; exact wr_of (by omega) (by omega)
              · rw [gi_sm, if_neg (by decide)]; exact x5
              · rw [gi_sm, if_neg (by decide)]; exact x6
            · rw [List.append_nil, List.append_nil]; exact MS_si (by decide) hM4
            · rw [hgi 115 m (by omega) (by decide), y3]; simp
            · rw [hw]
              exact ⟨fun z => absurd z (by decide), fun z => absurd z (by decide), fun _ => ⟨by dsimp only; omega, c4.2, c4.1, vb'.2⟩, fun z => absurd z (by decide)⟩
          · right
            have hf := flt_89 (G := G3) (q := q2) (k := 2) (by decide) (by omega)
            have e52 : f_LawReader_dowerLine_L52 G3 = some (si (flt G3 2 q2) c 5 (vC B L q2)) := by
              rw [f_LawReader_dowerLine_L52, f_LawReader_dowerLine_L57, if_pos hR3.2.1, kind_at hR3.1, Option.bind_some, if_pos c3, if_neg (by decide), fail_at hR3.1 hR3.2.1, Option.bind_some, f91 (flt G3 2 q2) _ q2 (flt_at hR3.1) (by rw [hf.1]; decide) hg3]
            have ecl : (if vC B L q2 = 0 then f_LawReader_dowerLine_L52 G3 else gd (lawC (gp G3 21 1) = true) (if gi G3 (gp G3 21 1) 4 ≤ vC B L q2 then f_LawReader_dowerLine_L57 G3 0 else f_LawReader_dowerLine_L52 G3)) = some (si (flt G3 2 q2) c 5 (vC B L q2)) := by
              by_cases z : vC B L q2 = 0
              · rw [if_pos z, e52]
              · rw [if_neg z, gd, if_pos (by rw [hg3]; exact hc), hg3, hx4, if_neg (by omega), e52]
            rw [ecl, f_Model_inner_L170, m2 (t2'.2 c3) (fun z => c4 ((hlow _).1 z.1))]
            refine lbad (by decide) (by omega) rfl rfl (hFW3.trans ((FW_flt (by decide)).trans (FW_si (by omega)))) ?_ hF3
            rw [gi_ne (by omega), gi_ne (by omega)]
            exact hf
        · right
          have hf := flt_89 (G := G3) (q := q2) (k := 1) (by decide) (by omega)
          have e91 : f_LawReader_dowerLine_L91 G3 = some (si (flt G3 1 q2) c 5 (vC B L q2)) := by
            rw [f_LawReader_dowerLine_L91, gd, if_pos (by rw [hg3]; exact hc), num_at hR3.1 hR3.2.1, Option.bind_some, if_neg c3, hg3]
            rfl
          have e57 : ∀ s : Int, f_LawReader_dowerLine_L57 G3 s = some (si (flt G3 1 q2) c 5 (vC B L q2)) := by
            intro s
            rw [f_LawReader_dowerLine_L57, if_pos hR3.2.1, kind_at hR3.1, Option.bind_some, if_neg c3, e91]
          have ecl : (if vC B L q2 = 0 then f_LawReader_dowerLine_L52 G3 else gd (lawC (gp G3 21 1) = true) (if gi G3 (gp G3 21 1) 4 ≤ vC B L q2 then f_LawReader_dowerLine_L57 G3 0 else f_LawReader_dowerLine_L52 G3)) = some (si (flt G3 1 q2) c 5 (vC B L q2)) := by
            by_cases z : vC B L q2 = 0
            · rw [if_pos z, f_LawReader_dowerLine_L52, e57]
            · rw [if_neg z, gd, if_pos (by rw [hg3]; exact hc)]
              split
              · exact e57 0
              · rw [f_LawReader_dowerLine_L52, e57]
          rw [ecl, f_Model_inner_L170, m3 (fun z => c3 (t2'.1 z))]
          refine lbad (by decide) (by omega) rfl rfl (hFW3.trans ((FW_flt (by decide)).trans (FW_si (by omega)))) ?_ hF3
          rw [gi_ne (by omega), gi_ne (by omega)]
          exact hf
      by_cases z : X ≤ 1
      · rw [if_pos (show gi H3 109 m ≤ 1 by rw [y1]; exact z)]
        exact fin 1 (fun y => by omega)
      · rw [if_neg (show ¬ gi H3 109 m ≤ 1 by rw [y1]; exact z), gd, if_pos (by omega), y1]
        exact fin X (fun y => by omega)
    · right
      have hf := flt_89 (G := G2) (q := q1) (k := 1) (by decide) (by omega)
      rw [if_neg c2, p2 (fun z => c2 (t14.1 z)), frest (flt G2 1 q1) _ q1 (flt_at hR2.1) (by rw [hf.1]; decide) hR2.2.2.1]
      refine lbad (by decide) (by omega) rfl rfl (hFW2.trans ((FW_flt (by decide)).trans (FW_si (by omega)))) ?_ hF2
      rw [gi_ne (by omega), gi_ne (by omega)]
      exact hf
  · right
    have hf := flt_89 (G := G) (q := q) (k := 1) (by decide) (by omega)
    have ha : atC (si (flt G 1 q) c 4 (vC B L q)) B L i q := atC_fr (gi_ne (by omega)) (gi_ne (by omega)) (fun x k z1 z2 => gi_ne (by omega)) (flt_at hA)
    have hn : gi (si (flt G 1 q) c 4 (vC B L q)) 15 8 ≠ 0 := by rw [gi_ne (by omega), hf.1]; decide
    rw [if_neg c1, n3 (fun z => c1 (t2.1 z)), take_no hn, Option.bind_some, frest _ i q ha hn hgp]
    refine lbad (by decide) (by omega) rfl rfl ((FW_flt (by decide)).trans ((FW_si (by omega)).trans (FW_si (by omega)))) ?_ ⟨fun _ _ _ _ _ => rfl, fun _ _ => rfl⟩
    rw [gi_ne (by omega), gi_ne (by omega), gi_ne (by omega), gi_ne (by omega)]
    exact hf
theorem term_B {c : Nat} {B : Nat → Int} {L i q m : Nat} {G H : GS} {cd : List Int} {st : Fm} {v : LVs} (s : Int) (n : Nat) (hs : (s = 6 ∧ n = 6) ∨ (s = 7 ∧ n = 7)) (hc : lawC c = true) (hL : L ≤ 800) (h : RC G c B L i q cd v) (hM : MS H B L q 0 st) (h41 : gi H 81 41 = m) (hm : m < 30) (h115 : gi H 115 m = st.length) : LOk c B L G H i m cd st v s ((f_Text_takeNumber G 9999).bind fun q => some (si q.2 c n q.1)) (f_Model_inner H s) ∨ LBad c G H m ((f_Text_takeNumber G 9999).bind fun q => some (si q.2 c n q.1)) (f_Model_inner H s) := by
  have hr := law_rng hc
  have hA := h.1
  have h8 := h.2.1
  have hq := hA.2.2.1
  have hgp := h.2.2.1
  have t2 := mLi (a := 2) (b := 2) (by decide +kernel) B L q
  have vb := vC_b B L q
  obtain ⟨n1, n2, n3⟩ := num_M (a := 0) (m := 9999) hM.1
  have er : f_Model_inner H s = (f_Model_aNumber H 0 9999).bind fun q7 => if q7.1 = 0 then some (0, q7.2) else some (1, si q7.2 109 m (gi q7.2 81 54)) := by
    rcases hs with z | z
    · rw [z.1, f_Model_inner, if_neg (show ¬ (6 : Int) = 3 by decide), if_neg (show ¬ (6 : Int) = 4 by decide), if_neg (show ¬ (6 : Int) = 5 by decide), if_pos (show (6 : Int) = 6 from rfl), h41]
      congr 1
      funext q7
      split
      · rfl
      · rw [gd, if_pos (by omega)]
        rfl
    · rw [z.1, f_Model_inner, if_neg (show ¬ (7 : Int) = 3 by decide), if_neg (show ¬ (7 : Int) = 4 by decide), if_neg (show ¬ (7 : Int) = 5 by decide), if_neg (show ¬ (7 : Int) = 6 by decide), if_pos (show (7 : Int) = 7 from rfl), h41]
      congr 1
      funext q7
      split
      · rfl
      · rw [gd, if_pos (by omega)]
        rfl
  rw [er, num_at hA h8, Option.bind_some]
  by_cases c1 : kC B L q = 2
  · by_cases c2 : vC B L q ≤ 9999
    · left
      rw [if_pos c1, if_pos c2]
      obtain ⟨H1, e1, e2, e3⟩ := n1 (t2.2 c1) ⟨vb.1, c2⟩
      have lq : q < L := kC_lt (B := B) (by omega)
      have hR1 := RC_stp hc lq h
      have hM1 : MS H1 B L (nq B L q) 0 st := MS_Mx e3 e2 (MS_54 hM)
      have g54 : gi H1 81 54 = vC B L q := by rw [e2.1 81 54 (by omega), gi_si, if_pos ⟨rfl, rfl⟩]; exact wr_of (by omega) (by omega)
      have g115 : gi H1 115 m = st.length := by rw [e2.1 115 m (by omega), gi_ne (by decide)]; exact h115
      rw [e1, Option.bind_some, if_neg (n10 H1)]
      dsimp only
      rw [g54]
      have hw : wF (si H1 109 m (vC B L q)) m = (vC B L q, gi H1 110 m, gi H1 111 m, gi H1 112 m) := by
        unfold wF
        rw [gi_sm, if_pos rfl, gi_ne (by decide), gi_ne (by decide), gi_ne (by decide), wr_of (by omega) (by omega)]
      refine ⟨si (stp G i) c n (vC B L q), si H1 109 m (vC B L q), i + 1, nq B L q, [], [], rfl, rfl, FW_stp.trans (FW_si (by omega)), FRm_54.trans ((FRm_Mx e2).trans (FRm_si (by decide))), ?_, ?_, ?_, ?_, okL0 (by omega), by simp only [List.append_nil, List.length_nil]; omega⟩
      · rw [cls0 (by omega), List.append_nil, hw]
        refine RC_si hc (by omega) hR1 ?_
        obtain ⟨x1, x2, x3, x4, x5, x6⟩ := hR1.2.2.2.2.2.2
        rcases hs with ⟨z1, z2⟩ | ⟨z1, z2⟩
        · rw [z1, z2]
          refine ⟨fun j hj => by rw [gi_ne (by omega)]; exact x1 j hj, fun u hu => by rw [gi_ne (by omega), gi_ne (by omega), gi_ne (by omega)]; exact x2 u hu, ?_, ?_, ?_, ?_⟩
          · rw [gi_sm, if_neg (by decide)]; exact x3
          · rw [gi_sm, if_neg (by decide)]; exact x4
          · rw [gi_sm, if_pos rfl]; exact wr_of (by omega) (by omega)
          · rw [gi_sm, if_neg (by decide)]; exact x6
        · rw [z1, z2]
          refine ⟨fun j hj => by rw [gi_ne (by omega)]; exact x1 j hj, fun u hu => by rw [gi_ne (by omega), gi_ne (by omega), gi_ne (by omega)]; exact x2 u hu, ?_, ?_, ?_, ?_⟩
          · rw [gi_sm, if_neg (by decide)]; exact x3
          · rw [gi_sm, if_neg (by decide)]; exact x4
          · rw [gi_sm, if_neg (by decide)]; exact x5
          · rw [gi_sm, if_pos rfl]; exact wr_of (by omega) (by omega)
      · rw [List.append_nil, List.append_nil]; exact MS_si (by decide) hM1
      · rw [gi_ne (by decide), g115]; simp
      · rw [hw]
        exact ⟨fun z => absurd z (by omega), fun z => absurd z (by omega), fun z => absurd z (by omega), fun _ => ⟨vb.1, c2⟩⟩
    · right
      have hf := flt_89 (G := G) (q := q) (k := 2) (by decide) (by omega)
      rw [if_pos c1, if_neg c2, n2 (t2.2 c1) (fun z => c2 z.2)]
      refine lbad (by decide) (by omega) rfl rfl ((FW_flt (by decide)).trans (FW_si (by omega))) ?_ ⟨fun _ _ _ _ _ => rfl, fun _ _ => rfl⟩
      rw [gi_ne (by omega), gi_ne (by omega)]
      exact hf
  · right
    have hf := flt_89 (G := G) (q := q) (k := 1) (by decide) (by omega)
    rw [if_neg c1, n3 (fun z => c1 (t2.1 z))]
    refine lbad (by decide) (by omega) rfl rfl ((FW_flt (by decide)).trans (FW_si (by omega))) ?_ ⟨fun _ _ _ _ _ => rfl, fun _ _ => rfl⟩
    rw [gi_ne (by omega), gi_ne (by omega)]
    exact hf
