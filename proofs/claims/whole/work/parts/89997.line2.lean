theorem ward_B {c : Nat} {B : Nat → Int} {L i q m : Nat} {G H : GS} {cd : List Int} {st : Fm} {v : LVs} (hc : lawC c = true) (hL : L ≤ 800) (hB : ∀ k, -128 ≤ B k ∧ B k ≤ 127) (h : RC G c B L i q cd v) (hM : MS H B L q 0 st) (h41 : gi H 81 41 = m) (hm : m < 30) (h115 : gi H 115 m = st.length) : LOk c B L G H i m cd st v 4 (f_LawReader_wardLine G) (f_Model_inner H 4) ∨ LBad c G H m (f_LawReader_wardLine G) (f_Model_inner H 4) := by
  have hr := law_rng hc
  have e0 : f_Model_inner H 4 = f_Model_aWard H := by
    rw [f_Model_inner, if_neg (by decide), if_pos rfl, bS]
  -- behind a fault
  have f55 : ∀ (F : GS) (j x : Nat) (u w z : Int), atC F B L j x → gi F 15 8 ≠ 0 → gp F 21 1 = c → 0 ≤ u ∧ u < 3 → ∃ G', f_LawReader_wardLine_L55 F u w z = some G' ∧ FW F G' c ∧ gi G' 15 8 = gi F 15 8 ∧ gi G' 15 9 = gi F 15 9 := by
    intro F j x u w z ha hn hg hu
    obtain ⟨y, y1, y2⟩ := oneOf_no (a := 113) (n := 3) hB ha hn (by decide) (by decide)
    refine ⟨si (si (si F (c + 2) u.toNat w) (c + 3) u.toNat z) (c + 4) u.toNat y, ?_, (FW_si (by omega)).trans ((FW_si (by omega)).trans (FW_si (by omega))), by rw [gi_ne (by omega), gi_ne (by omega), gi_ne (by omega)], by rw [gi_ne (by omega), gi_ne (by omega), gi_ne (by omega)]⟩
    have g1 : ∀ n b, gp (si F n b w) 21 1 = c := fun _ _ => hg
    rw [f_LawReader_wardLine_L55, take_no hn, Option.bind_some, y2, Option.bind_some]
    dsimp only
    rw [gd, if_pos (by rw [hg]; exact hc), gd, if_pos hu, hg]
    dsimp only [wG]
    rw [gd, if_pos (show lawC (gp (si F (c + 2) u.toNat w) 21 1) = true from by rw [show gp (si F (c + 2) u.toNat w) 21 1 = c from hg]; exact hc), gd, if_pos hu, show gp (si F (c + 2) u.toNat w) 21 1 = c from hg, gd, if_pos (show lawC (gp (si (si F (c + 2) u.toNat w) (c + 3) u.toNat z) 21 1) = true from by rw [show gp (si (si F (c + 2) u.toNat w) (c + 3) u.toNat z) 21 1 = c from hg]; exact hc), gd, if_pos hu, show gp (si (si F (c + 2) u.toNat w) (c + 3) u.toNat z) 21 1 = c from hg]
  have fnum : ∀ (F : GS) (j x : Nat) (u : Int), atC F B L j x → gi F 15 8 ≠ 0 → gp F 21 1 = c → 0 ≤ u ∧ u < 3 → ∃ G', ((f_Text_takeNumber F 40).bind fun q3 => (f_Text_takeIf q3.2 123).bind fun q4 => if q4.1 = 0 then f_LawReader_wardLine_L55 q4.2 u q3.1 q3.1 else (f_Text_takeNumber q4.2 40).bind fun q5 => f_LawReader_wardLine_L55 q5.2 u q3.1 q5.1) = some G' ∧ FW F G' c ∧ gi G' 15 8 = gi F 15 8 ∧ gi G' 15 9 = gi F 15 9 := by
    intro F j x u ha hn hg hu
    rw [num_no ha hn, Option.bind_some]
    dsimp only
    rw [takeIf_no hn, Option.bind_some, if_pos rfl]
    exact f55 F j x u _ _ ha hn hg hu
  have hA := h.1
  have h8 := h.2.1
  have hq := hA.2.2.1
  have hgp := h.2.2.1
  have t160 := of_decide_eq_true (mLp (fun K m => decide (((160 ≤ m ∧ m < 163) ↔ (110 ≤ K ∧ K < 113)) ∧ (110 ≤ K → K < 113 → m - 160 = K - 110))) (by decide +kernel) B L q)
  obtain ⟨o1, o2⟩ := oneOf_M (a := 160) (n := 3) hM.1 (by decide) (by decide)
  rw [e0, f_LawReader_wardLine, oneOf_at (a := 110) (n := 3) hB hA h8 (by decide) (by decide), Option.bind_some, f_Model_aWard, h41]
  by_cases c1 : 110 ≤ kC B L q ∧ kC B L q < 110 + 3
  · rw [if_pos c1]
    have lq : q < L := kC_lt (B := B) (by omega)
    have l1 := nq_le (B := B) lq
    have ev : mC 1 B L q - 160 = kC B L q - 110 := t160.2 (by omega) (by omega)
    obtain ⟨H1, e1, e2, e3⟩ := o1 (by have := t160.1.2 (by omega); omega)
    rw [ev] at e2
    have hR1 := RC_stp hc lq h
    have hM1 : MS H1 B L (nq B L q) 0 st := MS_Mx e3 e2 (MS_54 hM)
    have g54 : gi H1 81 54 = kC B L q - 110 := by rw [e2.1 81 54 (by omega), gi_si, if_pos ⟨rfl, rfl⟩]; exact wr_of (by omega) (by omega)
    have g115 : gi H1 115 m = st.length := by rw [e2.1 115 m (by omega), gi_ne (by decide)]; exact h115
    have hF1 : FRm H H1 m := FRm_54.trans (FRm_Mx e2)
    rw [e1, Option.bind_some, if_neg (n10 H1), gd, if_pos (by omega)]
    dsimp only [wG, Int.toNat_natCast]
    rw [g54]
    have hu : 0 ≤ kC B L q - 110 ∧ kC B L q - 110 < 3 := by omega
    generalize kC B L q - 110 = u at *
    have hM2 : MS (si H1 109 m u) B L (nq B L q) 0 st := MS_si (by decide) hM1
    have hF2 : FRm H (si H1 109 m u) m := hF1.trans (FRm_si (by decide))
    have w1 : gi (si H1 109 m u) 109 m = u := by rw [gi_sm, if_pos rfl]; exact wr_of (by omega) (by omega)
    have w3 : gi (si H1 109 m u) 115 m = st.length := by rw [gi_ne (by decide)]; exact g115
    generalize si H1 109 m u = H2 at *
    have hFW1 : FW G (stp G i) c := FW_stp
    have lq1 := hR1.1.2.2.1
    generalize stp G i = G1 at *
    generalize nq B L q = q1 at *
    have t11 := mLi (a := 122) (b := 11) (by decide +kernel) B L q1
    obtain ⟨n1, n2⟩ := need_at (a := 11) hM2.1 (by decide)
    rw [take_at hR1.1 hR1.2.1 (by decide), Option.bind_some]
    by_cases c2 : kC B L q1 = 122
    · rw [if_pos c2]
      obtain ⟨H3, d1, d2, d3⟩ := n1 (t11.2 c2)
      rw [d1, Option.bind_some, if_neg (n10 H3)]
      have lq1' : q1 < L := kC_lt (B := B) (by omega)
      have hR2 := RC_stp hc lq1' hR1
      have hM3 := MS_Mx d3 d2 hM2
      have hF3 : FRm H H3 m := hF2.trans (FRm_Mx d2)
      have v1 : gi H3 109 m = u := by rw [d2.1 109 m (by omega)]; exact w1
      have v3 : gi H3 115 m = st.length := by rw [d2.1 115 m (by omega)]; exact w3
      have hFW2 : FW G (stp G1 (i + 1)) c := hFW1.trans FW_stp
      have lq2 := hR2.1.2.2.1
      generalize stp G1 (i + 1) = G2 at *
      generalize nq B L q1 = q2 at *
      obtain ⟨m1, m2, m3⟩ := num_M (a := 0) (m := 40) hM3.1
      have t2 := mLi (a := 2) (b := 2) (by decide +kernel) B L q2
      have vb := vC_b B L q2
      by_cases c3 : kC B L q2 = 2
      · by_cases c4 : vC B L q2 ≤ 40
        · rw [num_at hR2.1 hR2.2.1, Option.bind_some, if_pos c3, if_pos c4]
          dsimp only
          obtain ⟨H4, b1, b2, b3⟩ := m1 (t2.2 c3) ⟨vb.1, c4⟩
          have lq2' : q2 < L := kC_lt (B := B) (by omega)
          have hR3 := RC_stp hc lq2' hR2
          have hM4 : MS H4 B L (nq B L q2) 0 st := MS_Mx b3 b2 (MS_54 hM3)
          have k54 : gi H4 81 54 = vC B L q2 := by rw [b2.1 81 54 (by omega), gi_si, if_pos ⟨rfl, rfl⟩]; exact wr_of (by omega) (by omega)
          have hF4 : FRm H H4 m := hF3.trans (FRm_54.trans (FRm_Mx b2))
          have z1 : gi H4 109 m = u := by rw [b2.1 109 m (by omega), gi_ne (by decide)]; exact v1
          have z3 : gi H4 115 m = st.length := by rw [b2.1 115 m (by omega), gi_ne (by decide)]; exact v3
          rw [b1, Option.bind_some, if_neg (n10 H4), gd, if_pos (by omega), k54]
          have k54' : gi (si H4 110 m (vC B L q2)) 81 54 = vC B L q2 := by rw [gi_ne (by decide)]; exact k54
          rw [gd, if_pos (by omega), k54']
          have hM5 : MS (si (si H4 110 m (vC B L q2)) 111 m (vC B L q2)) B L (nq B L q2) 0 st := MS_si (by decide) (MS_si (by decide) hM4)
          have hF5 : FRm H (si (si H4 110 m (vC B L q2)) 111 m (vC B L q2)) m := hF4.trans ((FRm_si (by decide)).trans (FRm_si (by decide)))
          have s1 : gi (si (si H4 110 m (vC B L q2)) 111 m (vC B L q2)) 109 m = u := by rw [gi_ne (by decide), gi_ne (by decide)]; exact z1
          have s2 : gi (si (si H4 110 m (vC B L q2)) 111 m (vC B L q2)) 110 m = vC B L q2 := by rw [gi_ne (by decide), gi_sm, if_pos rfl]; exact wr_of (by omega) (by omega)
          have s3 : gi (si (si H4 110 m (vC B L q2)) 111 m (vC B L q2)) 111 m = vC B L q2 := by rw [gi_sm, if_pos rfl]; exact wr_of (by omega) (by omega)
          have s4 : gi (si (si H4 110 m (vC B L q2)) 111 m (vC B L q2)) 115 m = st.length := by rw [gi_ne (by decide), gi_ne (by decide)]; exact z3
          generalize si (si H4 110 m (vC B L q2)) 111 m (vC B L q2) = H5 at *
          have hFW3 : FW G (stp G2 (i + 1 + 1)) c := hFW2.trans FW_stp
          have lq3 := hR3.1.2.2.1
          have ht : vC B L q2 ≤ 40 := c4
          generalize vC B L q2 = U at *
          generalize stp G2 (i + 1 + 1) = G3 at *
          generalize nq B L q2 = q3 at *
          -- the tail: who has the land, whose
          have tail : ∀ (G4 H6 : GS) (j x : Nat) (Z : Int), RC G4 c B L j x cd v → MS H6 B L x 0 st → FW G G4 c → FRm H H6 m → gi H6 109 m = u → gi H6 110 m = U → gi H6 111 m = Z → gi H6 115 m = st.length → 0 ≤ Z ∧ Z ≤ 40 → i ≤ j → LOk c B L G H i m cd st v 4 (f_LawReader_wardLine_L55 G4 u U Z) (f_Model_aWard_L104 H6 m) ∨ LBad c G H m (f_LawReader_wardLine_L55 G4 u U Z) (f_Model_aWard_L104 H6 m) := by
            intro G4 H6 j x Z hR hMS hFW hFR y1 y2 y3 y4 hZ hij
            have lx := hR.1.2.2.1
            have t13 := mLi (a := 124) (b := 13) (by decide +kernel) B L x
            obtain ⟨p1, p2⟩ := need_at (a := 13) hMS.1 (by decide)
            rw [f_LawReader_wardLine_L55, take_at hR.1 hR.2.1 (by decide), Option.bind_some, f_Model_aWard_L104]
            by_cases k1 : kC B L x = 124
            · rw [if_pos k1]
              obtain ⟨H7, r1, r2, r3⟩ := p1 (t13.2 k1)
              rw [r1, Option.bind_some, if_neg (n10 H7)]
              have lx' : x < L := kC_lt (B := B) (by omega)
              have hR5 := RC_stp hc lx' hR
              have hM7 := MS_Mx r3 r2 hMS
              have hFR7 : FRm H H7 m := hFR.trans (FRm_Mx r2)
              have u1 : gi H7 109 m = u := by rw [r2.1 109 m (by omega)]; exact y1
              have u2 : gi H7 110 m = U := by rw [r2.1 110 m (by omega)]; exact y2
              have u3 : gi H7 111 m = Z := by rw [r2.1 111 m (by omega)]; exact y3
              have u4 : gi H7 115 m = st.length := by rw [r2.1 115 m (by omega)]; exact y4
              have hFW5 : FW G (stp G4 j) c := hFW.trans FW_stp
              have lx1 := hR5.1.2.2.1
              generalize stp G4 j = G5 at *
              generalize nq B L x = x1 at *
              have t19 := mLi (a := 113) (b := 19) (by decide +kernel) B L x1
              have t9 := mLi (a := 114) (b := 9) (by decide +kernel) B L x1
              have t20 := mLi (a := 115) (b := 20) (by decide +kernel) B L x1
              have m45 := hM7.1.2.1
              rw [oneOf_at (a := 113) (n := 3) hB hR5.1 hR5.2.1 (by decide) (by decide), Option.bind_some]
              dsimp only
              rw [m45]
              by_cases k2 : 113 ≤ kC B L x1 ∧ kC B L x1 < 113 + 3
              · left
                rw [if_pos k2]
                have lx1' : x1 < L := kC_lt (B := B) (by omega)
                have hR6 := RC_stp hc lx1' hR5
                have hFW6 : FW G (stp G5 (j + 1)) c := hFW5.trans FW_stp
                dsimp only
                -- the reference
                have er : (if mC 1 B L x1 = 19 then f_Model_aWard_L148 H7 m else if mC 1 B L x1 = 9 then f_Model_aWard_L148 H7 m else if mC 1 B L x1 = 20 then f_Model_aWard_L148 H7 m else (f_Model_bad H7 1).bind fun q2 => some (q2.1, q2.2)) = f_Model_aWard_L180 H7 (kC B L x1 - 113) m := by
                  by_cases w1 : kC B L x1 = 113
                  · rw [if_pos (t19.2 w1), f_Model_aWard_L148, m45, if_pos (t19.2 w1), w1]; rfl
                  · rw [if_neg (fun w => w1 (t19.1 w))]
                    by_cases w2 : kC B L x1 = 114
                    · rw [if_pos (t9.2 w2), f_Model_aWard_L148, m45, if_neg (fun w => w1 (t19.1 w)), if_pos (t9.2 w2), w2]; rfl
                    · rw [if_neg (fun w => w2 (t9.1 w)), if_pos (t20.2 (by omega)), f_Model_aWard_L148, m45, if_neg (fun w => w1 (t19.1 w)), if_neg (fun w => w2 (t9.1 w)), show kC B L x1 = 115 by omega]; rfl
                have er2 : f_Model_aWard_L180 H7 (kC B L x1 - 113) m = (f_Model_next0 (si H7 112 m (kC B L x1 - 113))).bind fun q1 => some (1, q1) := by
                  rw [f_Model_aWard_L180, gd, if_pos (by omega)]
                  rfl
                rw [er, er2]
                have hD : 0 ≤ kC B L x1 - 113 ∧ kC B L x1 - 113 ≤ 2 := by omega
                generalize kC B L x1 - 113 = D at *
                dsimp only [wG, Int.toNat_natCast]
                have hM8 : MS (si H7 112 m D) B L x1 0 st := MS_si (by decide) hM7
                have hFR8 : FRm H (si H7 112 m D) m := hFR7.trans (FRm_si (by decide))
                have hw8 : wF (si H7 112 m D) m = (u, U, Z, D) := by
                  unfold wF
                  rw [gi_ne (by decide), gi_ne (by decide), gi_ne (by decide), gi_sm, if_pos rfl, u1, u2, u3, wr_of (by omega) (by omega)]
                have u5 : gi (si H7 112 m D) 115 m = st.length := by rw [gi_ne (by decide)]; exact u4
                generalize si H7 112 m D = H8 at *
                obtain ⟨H9, g1, g2, g3⟩ := next_at hM8.1 lx1'
                have hw9 : wF H9 m = (u, U, Z, D) := by
                  rw [← hw8]; unfold wF
                  rw [g2.1 109 m (by omega), g2.1 110 m (by omega), g2.1 111 m (by omega), g2.1 112 m (by omega)]
                generalize stp G5 (j + 1) = G6 at *
                have g6 : gp G6 21 1 = c := hR6.2.2.1
                have hcl : f_LawReader_wardLine_L55 G4 u U Z = f_LawReader_wardLine_L55 G4 u U Z := rfl
                refine ⟨si (si (si G6 (c + 2) u.toNat U) (c + 3) u.toNat Z) (c + 4) u.toNat D, H9, j + 1 + 1, nq B L x1, [], [], ?_, by rw [g1]; rfl, hFW6.trans ((FW_si (by omega)).trans ((FW_si (by omega)).trans (FW_si (by omega)))), hFR8.trans (FRm_Mx g2), ?_, ?_, ?_, ?_, okL0 (by decide), by simp only [List.append_nil, List.length_nil]; omega⟩
                · rw [gd, if_pos (by rw [g6]; exact hc), gd, if_pos (by omega), g6, gd, if_pos (show lawC (gp (si G6 (c + 2) u.toNat U) 21 1) = true from by rw [show gp (si G6 (c + 2) u.toNat U) 21 1 = c from g6]; exact hc), gd, if_pos (by omega), show gp (si G6 (c + 2) u.toNat U) 21 1 = c from g6, gd, if_pos (show lawC (gp (si (si G6 (c + 2) u.toNat U) (c + 3) u.toNat Z) 21 1) = true from by rw [show gp (si (si G6 (c + 2) u.toNat U) (c + 3) u.toNat Z) 21 1 = c from g6]; exact hc), gd, if_pos (by omega), show gp (si (si G6 (c + 2) u.toNat U) (c + 3) u.toNat Z) 21 1 = c from g6]
                · rw [cls0 (by decide), List.append_nil, hw9]
                  obtain ⟨a1, a2, a3, a4, a5, a6, x1', x2', x3', x4', x5', x6'⟩ := hR6
                  refine ⟨atC_fr (by rw [gi_ne (by omega), gi_ne (by omega), gi_ne (by omega)]) (by rw [gi_ne (by omega), gi_ne (by omega), gi_ne (by omega)]) (fun x k z1 z2 => by rw [gi_ne (by omega), gi_ne (by omega), gi_ne (by omega)]) a1, by rw [gi_ne (by omega), gi_ne (by omega), gi_ne (by omega)]; exact a2, a3, by rw [gi_ne (by omega), gi_ne (by omega), gi_ne (by omega)]; exact a4, Ar_fr (fun j _ => by rw [gi_ne (by omega), gi_ne (by omega), gi_ne (by omega)]) a5, a6, fun j hj => ?_, fun y hy => ?_, ?_, ?_, ?_, ?_⟩
                  · rw [gi_ne (by omega), gi_ne (by omega), gi_ne (by omega)]; exact x1' j hj
                  · obtain ⟨b1', b2', b3'⟩ := x2' y hy
                    show gi _ (c + 2) y = (if (y : Int) = u then U else v.2.1 y) ∧ gi _ (c + 3) y = (if (y : Int) = u then Z else v.2.2.1 y) ∧ gi _ (c + 4) y = (if (y : Int) = u then D else v.2.2.2.1 y)
                    refine ⟨?_, ?_, ?_⟩
                    · rw [gi_ne (by omega), gi_ne (by omega), gi_sm]
                      by_cases z : y = u.toNat
                      · rw [if_pos z, if_pos (by omega)]; exact wr_of (by omega) (by omega)
                      · rw [if_neg z, if_neg (by omega)]; exact b1'
                    · rw [gi_ne (by omega), gi_sm]
                      by_cases z : y = u.toNat
                      · rw [if_pos z, if_pos (by omega)]; exact wr_of (by omega) (by omega)
                      · rw [if_neg z, if_neg (by omega), gi_ne (by omega)]; exact b2'
                    · rw [gi_sm]
                      by_cases z : y = u.toNat
                      · rw [if_pos z, if_pos (by omega)]; exact wr_of (by omega) (by omega)
                      · rw [if_neg z, if_neg (by omega), gi_ne (by omega), gi_ne (by omega)]; exact b3'
                  · rw [gi_ne (by omega), gi_ne (by omega), gi_ne (by omega)]; exact x3'
                  · rw [gi_ne (by omega), gi_ne (by omega), gi_ne (by omega)]; exact x4'
                  · rw [gi_ne (by omega), gi_ne (by omega), gi_ne (by omega)]; exact x5'
                  · rw [gi_ne (by omega), gi_ne (by omega), gi_ne (by omega)]; exact x6'
                · rw [List.append_nil, List.append_nil]; exact MS_Mx g3 g2 hM8
                · rw [g2.1 115 m (by omega), u5]; simp
                · rw [hw9]
                  exact ⟨fun z => absurd z (by decide), fun _ => ⟨by dsimp only; omega, by dsimp only; omega, by dsimp only; omega, by dsimp only; omega⟩, fun z => absurd z (by decide), fun z => absurd z (by decide)⟩
              · right
                rw [if_neg k2, if_neg (fun w => k2 (by have := t19.1 w; omega)), if_neg (fun w => k2 (by have := t9.1 w; omega)), if_neg (fun w => k2 (by have := t20.1 w; omega)), bad_at hM7.1]
                have hf := flt_89 (G := G5) (q := x1) (k := 1) (by decide) (by omega)
                have g5 : gp (flt G5 1 x1) 21 1 = c := hR5.2.2.1
                dsimp only
                rw [gd, if_pos (by rw [g5]; exact hc), gd, if_pos (by omega), g5]
                dsimp only [wG]
                rw [gd, if_pos (show lawC (gp (si (flt G5 1 x1) (c + 2) u.toNat U) 21 1) = true from by rw [show gp (si (flt G5 1 x1) (c + 2) u.toNat U) 21 1 = c from g5]; exact hc), gd, if_pos (by omega), show gp (si (flt G5 1 x1) (c + 2) u.toNat U) 21 1 = c from g5, gd, if_pos (show lawC (gp (si (si (flt G5 1 x1) (c + 2) u.toNat U) (c + 3) u.toNat Z) 21 1) = true from by rw [show gp (si (si (flt G5 1 x1) (c + 2) u.toNat U) (c + 3) u.toNat Z) 21 1 = c from g5]; exact hc), gd, if_pos (by omega), show gp (si (si (flt G5 1 x1) (c + 2) u.toNat U) (c + 3) u.toNat Z) 21 1 = c from g5]
                refine lbad (by decide) (by omega) rfl rfl (hFW5.trans ((FW_flt (by decide)).trans ((FW_si (by omega)).trans ((FW_si (by omega)).trans (FW_si (by omega)))))) ?_ hFR7
                rw [gi_ne (by omega), gi_ne (by omega), gi_ne (by omega), gi_ne (by omega), gi_ne (by omega), gi_ne (by omega)]
                exact hf
            · right
              rw [if_neg k1, p2 (fun w => k1 (t13.1 w))]
              have hf := flt_89 (G := G4) (q := x) (k := 1) (by decide) (by omega)
              obtain ⟨G', r1, r2, r3, r4⟩ := f55 (flt G4 1 x) j x u U Z (flt_at hR.1) (by rw [hf.1]; decide) hR.2.2.1 hu
              rw [f_LawReader_wardLine_L55, take_no (by rw [hf.1]; decide), Option.bind_some] at r1
              exact lbad (by decide) (by omega) r1 rfl (hFW.trans ((FW_flt (by decide)).trans r2)) ⟨r3.trans hf.1, r4.trans hf.2⟩ hFR
          have t12 := mLi (a := 123) (b := 12) (by decide +kernel) B L q3
          rw [takeIf_at hR3.1 hR3.2.1 (by decide), Option.bind_some, hM5.1.2.1]
          by_cases c5 : kC B L q3 = 123
          · rw [if_pos c5, if_pos (t12.2 c5), if_neg (n10 (stp G3 (i + 1 + 1 + 1)))]
            have lq3' : q3 < L := kC_lt (B := B) (by omega)
            have hR4 := RC_stp hc lq3' hR3
            obtain ⟨H6, r1, r2, r3⟩ := next_at hM5.1 lq3'
            have hM6 := MS_Mx r3 r2 hM5
            rw [r1, Option.bind_some]
            have hFW4 : FW G (stp G3 (i + 1 + 1 + 1)) c := hFW3.trans FW_stp
            have lq4 := hR4.1.2.2.1
            generalize stp G3 (i + 1 + 1 + 1) = G4 at *
            generalize nq B L q3 = q4 at *
            obtain ⟨p1, p2, p3⟩ := num_M (a := 0) (m := 40) hM6.1
            have t2' := mLi (a := 2) (b := 2) (by decide +kernel) B L q4
            have vb' := vC_b B L q4
            dsimp only
            rw [num_at hR4.1 hR4.2.1, Option.bind_some]
            dsimp only
            by_cases c6 : kC B L q4 = 2
            · rw [if_pos c6]
              by_cases c7 : vC B L q4 ≤ 40
              · rw [if_pos c7]
                obtain ⟨H7, a1, a2, a3⟩ := p1 (t2'.2 c6) ⟨vb'.1, c7⟩
                have lq4' : q4 < L := kC_lt (B := B) (by omega)
                have hR5 := RC_stp hc lq4' hR4
                have hM7 : MS H7 B L (nq B L q4) 0 st := MS_Mx a3 a2 (MS_54 hM6)
                have k54'' : gi H7 81 54 = vC B L q4 := by rw [a2.1 81 54 (by omega), gi_si, if_pos ⟨rfl, rfl⟩]; exact wr_of (by omega) (by omega)
                rw [a1, Option.bind_some, if_neg (n10 H7), gd, if_pos (by omega), k54'']
                have hgi : ∀ x k, x ≠ 81 → gi H7 x k = gi H5 x k := fun x k z2 => by rw [a2.1 x k (by omega), gi_ne z2, r2.1 x k (by omega)]
                refine tail (stp G4 (i + 1 + 1 + 1 + 1)) (si H7 111 m (vC B L q4)) (i + 1 + 1 + 1 + 1 + 1) (nq B L q4) (vC B L q4) hR5 (MS_si (by decide) hM7) (hFW4.trans FW_stp) (hF5.trans ((FRm_Mx r2).trans (FRm_54.trans ((FRm_Mx a2).trans (FRm_si (by decide)))))) ?_ ?_ ?_ ?_ ⟨vb'.1, c7⟩ (by omega)
                · rw [gi_ne (by decide), hgi 109 m (by decide)]; exact s1
                · rw [gi_ne (by decide), hgi 110 m (by decide)]; exact s2
                · rw [gi_sm, if_pos rfl]; exact wr_of (by omega) (by omega)
                · rw [gi_ne (by decide), hgi 115 m (by decide)]; exact s4
              · right
                have hf := flt_89 (G := G4) (q := q4) (k := 2) (by decide) (by omega)
                rw [if_neg c7, p2 (t2'.2 c6) (fun z => c7 z.2)]
                obtain ⟨G', x1, x2, x3, x4⟩ := f55 (flt G4 2 q4) _ q4 u U (vC B L q4) (flt_at hR4.1) (by rw [hf.1]; decide) hR4.2.2.1 hu
                exact lbad (by decide) (by omega) x1 rfl (hFW4.trans ((FW_flt (by decide)).trans x2)) ⟨x3.trans hf.1, x4.trans hf.2⟩ (hF5.trans (FRm_Mx r2))
            · right
              have hf := flt_89 (G := G4) (q := q4) (k := 1) (by decide) (by omega)
              rw [if_neg c6, p3 (fun z => c6 (t2'.1 z))]
              obtain ⟨G', x1, x2, x3, x4⟩ := f55 (flt G4 1 q4) _ q4 u U (vC B L q4) (flt_at hR4.1) (by rw [hf.1]; decide) hR4.2.2.1 hu
              exact lbad (by decide) (by omega) x1 rfl (hFW4.trans ((FW_flt (by decide)).trans x2)) ⟨x3.trans hf.1, x4.trans hf.2⟩ (hF5.trans (FRm_Mx r2))
          · rw [if_neg c5, if_neg (fun z => c5 (t12.1 z)), if_pos rfl]
            exact tail G3 H5 _ q3 U hR3 hM5 hFW3 hF5 s1 s2 s3 s4 (by omega) (by omega)
        · right
          have hf := flt_89 (G := G2) (q := q2) (k := 2) (by decide) (by omega)
          rw [m2 (t2.2 c3) (fun z => c4 z.2), num_at hR2.1 hR2.2.1, Option.bind_some, if_pos c3, if_neg c4]
          dsimp only
          rw [takeIf_no (by rw [hf.1]; decide), Option.bind_some, if_pos rfl]
          obtain ⟨G', x1, x2, x3, x4⟩ := f55 (flt G2 2 q2) _ q2 u (vC B L q2) (vC B L q2) (flt_at hR2.1) (by rw [hf.1]; decide) hR2.2.2.1 hu
          exact lbad (by decide) (by omega) x1 rfl (hFW2.trans ((FW_flt (by decide)).trans x2)) ⟨x3.trans hf.1, x4.trans hf.2⟩ hF3
      · right
        have hf := flt_89 (G := G2) (q := q2) (k := 1) (by decide) (by omega)
        rw [m3 (fun z => c3 (t2.1 z)), num_at hR2.1 hR2.2.1, Option.bind_some, if_neg c3]
        dsimp only
        rw [takeIf_no (by rw [hf.1]; decide), Option.bind_some, if_pos rfl]
        obtain ⟨G', x1, x2, x3, x4⟩ := f55 (flt G2 1 q2) _ q2 u (vC B L q2) (vC B L q2) (flt_at hR2.1) (by rw [hf.1]; decide) hR2.2.2.1 hu
        exact lbad (by decide) (by omega) x1 rfl (hFW2.trans ((FW_flt (by decide)).trans x2)) ⟨x3.trans hf.1, x4.trans hf.2⟩ hF3
    · right
      have hf := flt_89 (G := G1) (q := q1) (k := 1) (by decide) (by omega)
      rw [if_neg c2, n2 (fun z => c2 (t11.1 z))]
      obtain ⟨G', x1, x2, x3, x4⟩ := fnum (flt G1 1 q1) _ q1 u (flt_at hR1.1) (by rw [hf.1]; decide) hR1.2.2.1 hu
      exact lbad (by decide) (by omega) x1 rfl (hFW1.trans ((FW_flt (by decide)).trans x2)) ⟨x3.trans hf.1, x4.trans hf.2⟩ hF2
  · right
    have hf := flt_89 (G := G) (q := q) (k := 1) (by decide) (by omega)
    rw [if_neg c1, o2 (fun z => c1 (by have := t160.1.1 z; omega))]
    dsimp only
    rw [take_no (by rw [hf.1]; decide), Option.bind_some]
    obtain ⟨G', x1, x2, x3, x4⟩ := fnum (flt G 1 q) _ q 0 (flt_at hA) (by rw [hf.1]; decide) hgp (by decide)
    exact lbad (by decide) (by omega) x1 rfl ((FW_flt (by decide)).trans x2) ⟨x3.trans hf.1, x4.trans hf.2⟩ ⟨fun _ _ _ _ _ => rfl, fun _ _ => rfl⟩
