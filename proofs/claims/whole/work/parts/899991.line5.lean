/-! a whole line, the loop over lines -/
def RM (H : GS) (B : Nat → Int) (L q : Nat) (ls : List (Int × Fm × Fm)) : Prop := atM H 1 B L q ∧ gi H 81 48 = 0 ∧ gi H 81 42 = ((stepL ls).length : Nat) ∧ A2 H (stepL ls) ∧ gi H 81 41 = (ls.length : Nat) ∧ ∀ k, k < ls.length → (gi H 113 k = (ls.getD k (0, [], [])).1 ∧ gi H 114 k = offL ls k ∧ gi H 115 k = offL ls k + (ls.getD k (0, [], [])).2.1.length) ∧ goodW (gi H 113 k) (wF H k)
def FR (H H' : GS) : Prop := (∀ x k, ¬ (x = 81 ∧ (k = 41 ∨ k = 42 ∨ (44 ≤ k ∧ k ≤ 49) ∨ k = 51 ∨ k = 54)) → ¬ (109 ≤ x ∧ x ≤ 116) → gi H' x k = gi H x k) ∧ ∀ x k, gp H' x k = gp H x k
theorem FR.trans {H H' H'' : GS} (h : FR H H') (h' : FR H' H'') : FR H H'' := ⟨fun x k a1 a2 => by rw [h'.1 x k a1 a2, h.1 x k a1 a2], fun x k => by rw [h'.2, h.2]⟩
theorem FRm.fr {H H' : GS} {m : Nat} (h : FRm H H' m) : FR H H' := ⟨fun x k a1 a2 => h.1 x k (by omega) (by omega) (by omega), h.2⟩
theorem FR_Mx {H H' : GS} (h : Mx H H') : FR H H' := ⟨fun x k a1 a2 => h.1 x k (by omega), h.2⟩
theorem FR_si {H : GS} {x k : Nat} {v : Int} (hx : (109 ≤ x ∧ x ≤ 116) ∨ (x = 81 ∧ (k = 41 ∨ k = 51))) : FR H (si H x k v) := ⟨fun y j a1 a2 => by rw [gi_si, if_neg (by omega)], fun _ _ => rfl⟩
theorem FR_bad {H : GS} {q : Nat} {v : Int} : FR H (bad H v q) := ⟨fun x k a1 a2 => bad_gi (by omega), fun _ _ => rfl⟩
def kwS (K s : Int) : Prop := (K = 105 ∧ s = 3) ∨ (K = 116 ∧ s = 4) ∨ (K = 117 ∧ s = 5) ∨ (K = 118 ∧ s = 6) ∨ (K = 119 ∧ s = 7) ∨ (K = 120 ∧ s = 8) ∨ (K = 114 ∧ s = 9)
theorem line_body {c : Nat} {G G1 : GS} {K s : Int} (hK : kwS K s) (ht : f_Text_take G K = some G1) (hc : lawC c = true) (hg : gp G1 21 1 = c) : ∃ rc : Option GS, f_LawReader_line G K = rc.bind f_LawReader_line_L160 ∧ ∀ (B : Nat → Int) (L i q m : Nat) (H : GS) (cd : List Int) (st : Fm) (v : LVs), L ≤ 800 → (∀ k, -128 ≤ B k ∧ B k ≤ 127) → RC G1 c B L i q cd v → MS H B L q 0 st → gi H 81 41 = m → m < 30 → gi H 115 m = st.length → cd.length + 1 ≤ i → st.length ≤ i → LOk c B L G1 H i m cd st v s rc (f_Model_inner H s) ∨ LBad c G1 H m rc (f_Model_inner H s) := by
  have e0 : f_LawReader_line G K = (some G1).bind fun q1 => if K = 105 then (f_LawReader_heirsLine q1).bind fun q2 => f_LawReader_line_L160 q2 else if K = 106 then (f_LawReader_kingLine q1).bind fun q3 => f_LawReader_line_L160 q3 else if K = 107 then (f_LawReader_kingLine q1).bind fun q3 => f_LawReader_line_L160 q3 else if K = 108 then (f_LawReader_kingLine q1).bind fun q3 => f_LawReader_line_L160 q3 else if K = 109 then (f_LawReader_kingLine q1).bind fun q3 => f_LawReader_line_L160 q3 else if K = 110 then (f_LawReader_kingLine q1).bind fun q3 => f_LawReader_line_L160 q3 else if K = 111 then (f_LawReader_kingLine q1).bind fun q3 => f_LawReader_line_L160 q3 else if K = 112 then (f_LawReader_kingLine q1).bind fun q3 => f_LawReader_line_L160 q3 else if K = 113 then (f_LawReader_kingLine q1).bind fun q3 => f_LawReader_line_L160 q3 else if K = 114 then (f_LawReader_kingLine q1).bind fun q3 => f_LawReader_line_L160 q3 else if K = 115 then (f_LawReader_kingLine q1).bind fun q3 => f_LawReader_line_L160 q3 else if K = 116 then (f_LawReader_wardLine q1).bind fun q3 => f_LawReader_line_L160 q3 else if K = 117 then (f_LawReader_dowerLine q1).bind fun q3 => f_LawReader_line_L160 q3 else if K = 118 then gd (lawC (gp q1 21 1) = true) <| (f_Text_takeNumber q1 9999).bind fun q15 => wG (si q15.2 (gp q1 21 1) 6 q15.1) fun G1 => f_LawReader_line_L160 G1 else if K = 119 then gd (lawC (gp q1 21 1) = true) <| (f_Text_takeNumber q1 9999).bind fun q15 => wG (si q15.2 (gp q1 21 1) 7 q15.1) fun G1 => f_LawReader_line_L160 G1 else if K = 120 then (f_LawReader_reliefLine q1).bind fun q3 => f_LawReader_line_L160 q3 else (f_LawReader_kingLine q1).bind fun q3 => f_LawReader_line_L160 q3 := by
    rw [f_LawReader_line, ht]
  rw [e0, Option.bind_some]
  rcases hK with ⟨z1, z2⟩ | ⟨z1, z2⟩ | ⟨z1, z2⟩ | ⟨z1, z2⟩ | ⟨z1, z2⟩ | ⟨z1, z2⟩ | ⟨z1, z2⟩
  · rw [if_pos z1, z2]
    exact ⟨_, rfl, fun B L i q m H cd st v hL hB hR hM h41 hm h115 hi hst => heirs_B hc hL hB hR hM h41 hm h115⟩
  · rw [z1, z2]
    exact ⟨_, rfl, fun B L i q m H cd st v hL hB hR hM h41 hm h115 hi hst => ward_B hc hL hB hR hM h41 hm h115⟩
  · rw [z1, z2]
    exact ⟨_, rfl, fun B L i q m H cd st v hL hB hR hM h41 hm h115 hi hst => dower_B hc hL hR hM h41 hm h115⟩
  · rw [z1, z2]
    refine ⟨(f_Text_takeNumber G1 9999).bind fun q => some (si q.2 c 6 q.1), ?_, fun B L i q m H cd st v hL hB hR hM h41 hm h115 hi hst => term_B 6 6 (Or.inl ⟨rfl, rfl⟩) hc hL hR hM h41 hm h115⟩
    show gd (lawC (gp G1 21 1) = true) _ = _
    rw [gd, if_pos (by rw [hg]; exact hc), hg, Option.bind_assoc]
    rfl
  · rw [z1, z2]
    refine ⟨(f_Text_takeNumber G1 9999).bind fun q => some (si q.2 c 7 q.1), ?_, fun B L i q m H cd st v hL hB hR hM h41 hm h115 hi hst => term_B 7 7 (Or.inr ⟨rfl, rfl⟩) hc hL hR hM h41 hm h115⟩
    show gd (lawC (gp G1 21 1) = true) _ = _
    rw [gd, if_pos (by rw [hg]; exact hc), hg, Option.bind_assoc]
    rfl
  · rw [z1, z2]
    exact ⟨_, rfl, fun B L i q m H cd st v hL hB hR hM h41 hm h115 hi hst => relief_B hc hL hR hM h41 hm hi hst⟩
  · rw [z1, z2]
    exact ⟨_, rfl, fun B L i q m H cd st v hL hB hR hM h41 hm h115 hi hst => king_B hc hL hR hM hm h115 hi hst⟩
theorem codeL_app (ls : List (Int × Fm × Fm)) (l : Int × Fm × Fm) : codeL (ls ++ [l]) = codeL ls ++ clsL' l := by
  unfold codeL
  rw [List.flatMap_append, List.flatMap_singleton]
theorem stepL_app (ls : List (Int × Fm × Fm)) (l : Int × Fm × Fm) : stepL (ls ++ [l]) = stepL ls ++ (l.2.1 ++ l.2.2) := by
  unfold stepL
  rw [List.flatMap_append, List.flatMap_singleton]
theorem offL_app {ls : List (Int × Fm × Fm)} {l : Int × Fm × Fm} {k : Nat} (hk : k ≤ ls.length) : offL (ls ++ [l]) k = offL ls k := by
  unfold offL
  rw [List.take_append_of_le_length hk]
theorem offL_len (ls : List (Int × Fm × Fm)) : offL ls ls.length = (stepL ls).length := by
  unfold offL
  rw [List.take_length]
def LineOk (c : Nat) (B : Nat → Int) (L : Nat) (G H : GS) (i : Nat) (ls : List (Int × Fm × Fm)) (rc : Option GS) (rm : Option (Int × GS)) : Prop := ∃ G' H' i' q' l, rc = some G' ∧ rm = some (1, H') ∧ FW G G' c ∧ FR H H' ∧ i < i' ∧ RC G' c B L i' q' (codeL (ls ++ [l])) (vUp (gF H') (ls.length + 1)) ∧ RM H' B L q' (ls ++ [l]) ∧ okL l ∧ (stepL (ls ++ [l])).length ≤ i'
def LineBad (c : Nat) (G H : GS) (rc : Option GS) (rm : Option (Int × GS)) : Prop := ∃ G' H' k x, rc = some G' ∧ rm = some (0, H') ∧ FW G G' c ∧ FR H H' ∧ gi G' 15 8 = k ∧ gi G' 15 9 = x ∧ gi H' 81 48 = k ∧ gi H' 81 49 = x ∧ (1 ≤ k ∧ k ≤ 3)
theorem line_S {c : Nat} {B : Nat → Int} {L i q : Nat} {G H : GS} {ls : List (Int × Fm × Fm)} {s : Int} (hc : lawC c = true) (hL : L ≤ 800) (hB : ∀ k, -128 ≤ B k ∧ B k ≤ 127) (hR : RC G c B L i q (codeL ls) (vUp (gF H) ls.length)) (hM : RM H B L q ls) (hst : (stepL ls).length ≤ i) (hl : ls.length < 30) (hK : kwS (kC B L q) s) : LineOk c B L G H i ls (f_LawReader_line G (kC B L q)) (f_Model_aLine H) ∨ LineBad c G H (f_LawReader_line G (kC B L q)) (f_Model_aLine H) := by
  have hr := law_rng hc
  have hA := hR.1
  have hi8 := (atC_hd hA).1
  have hq : q < L := kC_lt (B := B) (by unfold kwS at hK; omega)
  have ms : mC 1 B L q = s := by
    unfold kwS at hK
    rcases hK with ⟨z1, z2⟩ | ⟨z1, z2⟩ | ⟨z1, z2⟩ | ⟨z1, z2⟩ | ⟨z1, z2⟩ | ⟨z1, z2⟩ | ⟨z1, z2⟩
    · rw [z2]; exact (mLi (a := 105) (b := 3) (by decide +kernel) B L q).2 z1
    · rw [z2]; exact (mLi (a := 116) (b := 4) (by decide +kernel) B L q).2 z1
    · rw [z2]; exact (mLi (a := 117) (b := 5) (by decide +kernel) B L q).2 z1
    · rw [z2]; exact (mLi (a := 118) (b := 6) (by decide +kernel) B L q).2 z1
    · rw [z2]; exact (mLi (a := 119) (b := 7) (by decide +kernel) B L q).2 z1
    · rw [z2]; exact (mLi (a := 120) (b := 8) (by decide +kernel) B L q).2 z1
    · rw [z2]; exact (mLi (a := 114) (b := 9) (by decide +kernel) B L q).2 z1
  have hs : 3 ≤ s ∧ s ≤ 9 := by unfold kwS at hK; omega
  have ht : f_Text_take G (kC B L q) = some (stp G i) := by
    rw [take_at hA hR.2.1 (by unfold kwS at hK; omega), if_pos rfl]
  obtain ⟨rc, e1, hbody⟩ := line_body hK ht hc (show gp (stp G i) 21 1 = c from hR.2.2.1)
  obtain ⟨m1, m2, m3, m4, m5, m6⟩ := hM
  have hR1 := RC_stp hc hq hR
  -- the reference before the line's inside
  generalize hm : ls.length = m at *
  have hg0 : ∀ x k, ¬ ((113 ≤ x ∧ x ≤ 115) ∧ k = m) → ¬ (x = 81 ∧ k = 51) → gi (si (si (si (si H 113 m s) 114 m ((stepL ls).length : Nat)) 115 m ((stepL ls).length : Nat)) 81 51 0) x k = gi H x k := fun x k z1 z2 => by rw [gi_si, if_neg z2, gi_si, if_neg (by omega), gi_si, if_neg (by omega), gi_si, if_neg (by omega)]
  have v113 : gi (si (si (si (si H 113 m s) 114 m ((stepL ls).length : Nat)) 115 m ((stepL ls).length : Nat)) 81 51 0) 113 m = s := by rw [gi_ne (by decide), gi_ne (by decide), gi_ne (by decide), gi_sm, if_pos rfl]; exact wr_of (by omega) (by omega)
  have v114 : gi (si (si (si (si H 113 m s) 114 m ((stepL ls).length : Nat)) 115 m ((stepL ls).length : Nat)) 81 51 0) 114 m = ((stepL ls).length : Nat) := by rw [gi_ne (by decide), gi_ne (by decide), gi_sm, if_pos rfl]; exact wr_of (by omega) (by omega)
  have v115 : gi (si (si (si (si H 113 m s) 114 m ((stepL ls).length : Nat)) 115 m ((stepL ls).length : Nat)) 81 51 0) 115 m = ((stepL ls).length : Nat) := by rw [gi_ne (by decide), gi_sm, if_pos rfl]; exact wr_of (by omega) (by omega)
  have v51 : gi (si (si (si (si H 113 m s) 114 m ((stepL ls).length : Nat)) 115 m ((stepL ls).length : Nat)) 81 51 0) 81 51 = 0 := by rw [gi_si, if_pos ⟨rfl, rfl⟩]; exact wr_zero
  have hA0 : atM (si (si (si (si H 113 m s) 114 m ((stepL ls).length : Nat)) 115 m ((stepL ls).length : Nat)) 81 51 0) 1 B L q := atM_si (by decide) (atM_sj (by decide) (atM_sj (by decide) (atM_sj (by decide) m1)))
  have hFR0 : FR H (si (si (si (si H 113 m s) 114 m ((stepL ls).length : Nat)) 115 m ((stepL ls).length : Nat)) 81 51 0) := (FR_si (by omega)).trans ((FR_si (by omega)).trans ((FR_si (by omega)).trans (FR_si (by omega))))
  have e2 : f_Model_aLine H = (f_Model_next0 (si (si (si (si H 113 m s) 114 m ((stepL ls).length : Nat)) 115 m ((stepL ls).length : Nat)) 81 51 0)).bind fun q2 => gd (0 ≤ gi q2 81 41 ∧ gi q2 81 41 < 30) <| (f_Model_inner q2 (gi q2 113 (gi q2 81 41).toNat)).bind fun q3 => if q3.1 = 0 then some (0, q3.2) else (f_Model_need (si q3.2 81 41 ((gi q3.2 81 41) + 1)) 59).bind fun q4 => some (q4.1, q4.2) := by
    have b1 : gi (si H 113 m s) 81 41 = m := by rw [gi_ne (by decide)]; exact m5
    have b2 : gi (si H 113 m s) 81 42 = ((stepL ls).length : Nat) := by rw [gi_ne (by decide)]; exact m3
    have b3 : gi (si (si H 113 m s) 114 m ((stepL ls).length : Nat)) 81 41 = m := by rw [gi_ne (by decide)]; exact b1
    have b4 : gi (si (si H 113 m s) 114 m ((stepL ls).length : Nat)) 81 42 = ((stepL ls).length : Nat) := by rw [gi_ne (by decide)]; exact b2
    rw [f_Model_aLine, m1.2.1, ms, isIn_eq, if_pos hs, Option.bind_some, if_neg (by decide), m5, if_neg (by omega), gd, if_pos (by omega)]
    dsimp only [wG, Int.toNat_natCast]
    rw [b1, gd, if_pos (by omega), b2, Int.toNat_natCast, b3, gd, if_pos (by omega), b4, Int.toNat_natCast]
  generalize si (si (si (si H 113 m s) 114 m ((stepL ls).length : Nat)) 115 m ((stepL ls).length : Nat)) 81 51 0 = H0 at *
  obtain ⟨H1, d1, d2, d3⟩ := next_at hA0 hq
  have hMS1 : MS H1 B L (nq B L q) 0 (stepL ls) := MS_Mx d3 d2 ⟨hA0, v51, by rw [hg0 81 42 (by omega) (by omega)]; exact m3, fun j hj => by rw [hg0 116 _ (by omega) (by omega), hg0 116 _ (by omega) (by omega)]; exact m4 j hj, by rw [hg0 81 48 (by omega) (by omega)]; exact m2⟩
  have h41 : gi H1 81 41 = m := by rw [d2.1 81 41 (by omega), hg0 81 41 (by omega) (by omega)]; exact m5
  have h113 : gi H1 113 m = s := by rw [d2.1 113 m (by omega)]; exact v113
  have h115 : gi H1 115 m = ((stepL ls).length : Nat) := by rw [d2.1 115 m (by omega)]; exact v115
  have e3 : f_Model_aLine H = (f_Model_inner H1 s).bind fun q3 => if q3.1 = 0 then some (0, q3.2) else (f_Model_need (si q3.2 81 41 ((gi q3.2 81 41) + 1)) 59).bind fun q4 => some (q4.1, q4.2) := by
    rw [e2, d1, Option.bind_some, h41, gd, if_pos (by omega), Int.toNat_natCast, h113]
  have hcl : (codeL ls).length ≤ i := hR.2.2.2.2.2.1
  rw [e1, e3]
  rcases hbody B L (i + 1) (nq B L q) m H1 (codeL ls) (stepL ls) _ hL hB hR1 hMS1 h41 hl h115 (by omega) (by omega) with ⟨G2, H2, i2, q2, E, F, a1, a2, a3, a4, a5, a6, a7, a8, a9, a10⟩ | ⟨G2, H2, k, x, a1, a2, a3, a4, a5, a6, a7, a8, a9⟩
  · have hA2 := a5.1
    have hq2 := hA2.2.2.1
    have i2b := (atC_hd hA2).1
    have hm41 : gi H2 81 41 = m := by rw [a4.1 81 41 (by omega) (by decide) (by omega)]; exact h41
    have t59 := mLi (a := 59) (b := 59) (by decide +kernel) B L q2
    have hA3 : atM (si H2 81 41 ((m : Int) + 1)) 1 B L q2 := atM_si (by decide) a6.1
    obtain ⟨p1, p2⟩ := need_at (a := 59) hA3 (by decide)
    have hFR2 : FR H (si H2 81 41 ((m : Int) + 1)) := hFR0.trans ((FR_Mx d2).trans (a4.fr.trans (FR_si (by omega))))
    rw [a1, a2, Option.bind_some, Option.bind_some, if_neg (n10 H2)]
    dsimp only
    rw [hm41, f_LawReader_line_L160, take_at hA2 a5.2.1 (by decide)]
    by_cases c1 : kC B L q2 = 59
    · left
      rw [if_pos c1]
      obtain ⟨H3, r1, r2, r3⟩ := p1 (t59.2 c1)
      have lq2 : q2 < L := kC_lt (B := B) (by omega)
      have hR3 := RC_stp hc lq2 a5
      have hx3 : ∀ x k, x ≠ 81 → gi H3 x k = gi H2 x k := fun x k z => by rw [r2.1 x k (by omega), gi_ne z]
      have hk0 : ∀ x k, (109 ≤ x ∧ x ≤ 115) → k < m → gi H3 x k = gi H x k := fun x k z1 z2 => by rw [hx3 x k (by omega), a4.1 x k (by omega) (by omega) (by omega), d2.1 x k (by omega), hg0 x k (by omega) (by omega)]
      have hw3 : wF H3 m = wF H2 m := by unfold wF; rw [hx3 109 m (by decide), hx3 110 m (by decide), hx3 111 m (by decide), hx3 112 m (by decide)]
      have h113' : gi H3 113 m = s := by rw [hx3 113 m (by decide), a4.1 113 m (by omega) (by decide) (by omega)]; exact h113
      have hv : vUp (gF H3) (m + 1) = eff s (wF H2 m) (vUp (gF H) m) := by
        rw [vUp, vUp_fr (g := gF H) m (fun k hk => by
          unfold gF wF
          rw [hk0 113 k (by omega) hk, hk0 109 k (by omega) hk, hk0 110 k (by omega) hk, hk0 111 k (by omega) hk, hk0 112 k (by omega) hk])]
        show eff (gi H3 113 m) (wF H3 m) _ = _
        rw [h113', hw3]
      refine ⟨stp G2 i2, H3, i2 + 1, nq B L q2, (s, E, F), rfl, by rw [r1]; rfl, FW_stp.trans (a3.trans FW_stp), hFR2.trans (FR_Mx r2), by omega, ?_, ⟨r3, ?_, ?_, ?_, ?_, ?_⟩, a9, ?_⟩
      · rw [codeL_app, hm, hv]; exact hR3
      · rw [r2.1 81 48 (by omega), gi_si, if_neg (by omega)]; exact a6.2.2.2.2
      · rw [stepL_app, r2.1 81 42 (by omega), gi_si, if_neg (by omega)]; exact a6.2.2.1
      · rw [stepL_app]
        intro j hj
        rw [hx3 116 _ (by decide), hx3 116 _ (by decide)]
        exact a6.2.2.2.1 j hj
      · rw [r2.1 81 41 (by omega), gi_si, if_pos ⟨rfl, rfl⟩, wr_of (by omega) (by omega), List.length_append, hm]; simp
      · intro k hk
        rw [List.length_append, hm] at hk
        simp only [List.length_singleton] at hk
        rw [getD_push (by rw [List.length_append, hm]; simp only [List.length_singleton]; omega), offL_app (by omega)]
        by_cases z : k = m
        · rw [if_pos (by omega), z]
          refine ⟨⟨h113', ?_, ?_⟩, by rw [h113', hw3]; exact a8⟩
          · rw [hx3 114 m (by decide), a4.1 114 m (by omega) (by decide) (by omega), d2.1 114 m (by omega), v114, ← hm, offL_len]
          · rw [hx3 115 m (by decide), a7, ← hm, offL_len]
        · rw [if_neg (by omega)]
          have h0 := m6 k (by omega)
          have hw0 : wF H3 k = wF H k := by unfold wF; rw [hk0 109 k (by omega) (by omega), hk0 110 k (by omega) (by omega), hk0 111 k (by omega) (by omega), hk0 112 k (by omega) (by omega)]
          rw [hk0 113 k (by omega) (by omega), hk0 114 k (by omega) (by omega), hk0 115 k (by omega) (by omega), hw0]
          exact h0
      · rw [stepL_app, List.length_append]
        dsimp only
        omega
    · right
      have hf := flt_89 (G := G2) (q := q2) (k := 1) (by decide) (by omega)
      rw [if_neg c1, p2 (fun z => c1 (t59.1 z))]
      exact ⟨flt G2 1 q2, bad (si H2 81 41 ((m : Int) + 1)) 1 q2, 1, q2, rfl, rfl, FW_stp.trans (a3.trans (FW_flt (by decide))), hFR2.trans FR_bad, hf.1, hf.2, bad_48 rfl, bad_49 (by omega), by decide⟩
  · right
    rw [a1, a2, Option.bind_some, f_LawReader_line_L160, take_no (by rw [a4]; omega)]
    exact ⟨G2, H2, k, x, rfl, rfl, FW_stp.trans a3, hFR0.trans ((FR_Mx d2).trans a6.fr), a4, a5, a7, a8, a9⟩
