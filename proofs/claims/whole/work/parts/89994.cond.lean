/-! a condition's formula: one, all, any -/
def SimC (c : Nat) (B : Nat → Int) (L : Nat) (X : GS → Option (Int × GS)) (d : Nat) (rl rt : Int) (sb tb : Nat) (stop : Int → Prop) : Prop := ∀ (G H : GS) (i q : Nat) (s cd : List Int) (cond last : Int) (st : Fm), LSf G c B L i q s cd 0 d 0 cond last → MS H B L q d st → lowS rl s → s.length ≤ sb → st.length ≤ i → cond ≠ 0 → (last = 0 ∨ last = 129 ∨ last = 128 ∨ last = 127) → (∃ G' H' i' q' nt', X H = some (1, H') ∧ Mid c B L G H i s cd st d rt true tb cond 0 nt' 1 G' H' i' q' ∧ stop (kC B L q')) ∨ ∃ H' k x, X H = some (0, H') ∧ BadH H H' k x ∧ (1 ≤ k ∧ k ≤ 3) ∧ Bdf G c i 1 k x
theorem one_S {c : Nat} {B : Nat → Int} {L : Nat} {rec : GS → Option (Int × GS)} {d : Nat} (hc : lawC c = true) (hL : L ≤ 800) (hd : d ≤ 8) (hrec : d < 8 → SimC c B L rec (d + 1) 4 3 (3 + 3 * (d + 1)) (9 + 3 * (d + 1)) noA) : SimC c B L (f_Model_one rec) d 4 3 (3 + 3 * d) (9 + 3 * d) noA := by
  intro G H i q s cd cond last st hLS hMS hlow hsl hst hcond hlast
  have hA := hLS.1
  have h8 := hLS.2.1
  have hi8 := (atC_hd hA).1
  have hqL := hA.2.2.1
  have t18 := mLi (a := 129) (b := 18) (by decide +kernel) B L q
  rw [f_Model_one, hMS.1.2.1]
  by_cases c129 : kC B L q = 129
  · rw [if_pos (t18.2 c129), f_Model_opens, hMS.2.1]
    by_cases z : (d : Int) = 8
    · rw [if_pos z, bad_at hMS.1]
      refine Or.inr ⟨bad H 3 q, 3, q, rfl, BadH_bad rfl (by omega), by omega, ?_⟩
      exact Bd_opr hc hA h8 (opr_3 hLS (by omega) (Or.inr ⟨c129, hcond, hlast⟩)) (FL_flt (by decide)) (SB_flt hc hLS.2.2.1) (flt_8 rfl) (flt_9 (by omega)) (by decide)
    · have hq : q < L := kC_lt (B := B) (by omega)
      have hw : gi (si H 81 51 ((d : Int) + 1)) 81 51 = ((d + 1 : Nat) : Int) := by rw [gi_si, if_pos ⟨rfl, rfl⟩, wr_of (by omega) (by omega)]; omega
      have hM0 : MS (si H 81 51 ((d : Int) + 1)) B L q ((d + 1 : Nat) : Int) st := ⟨atM_si (by decide) hMS.1, hw, by rw [gi_si, if_neg (by omega)]; exact hMS.2.2.1, fun j hj => by rw [gi_ne (by decide), gi_ne (by decide)]; exact hMS.2.2.2.1 j hj, by rw [gi_si, if_neg (by omega)]; exact hMS.2.2.2.2⟩
      obtain ⟨H1, d1, d2, d3⟩ := next_at hM0.1 hq
      have hM1 := MS_Mx d3 d2 hM0
      have hH1 : FH H H1 := FH_51.trans (FH_Mx d2)
      have eo : ((if (d : Int) = 8 then (f_Model_bad H 3).bind fun q2 => some (q2.1, q2.2) else wG (si H 81 51 ((d : Int) + 1)) fun G1 => (f_Model_next0 G1).bind fun q1 => some ((1 : Int), q1)) : Option (Int × GS)) = some (1, H1) := by
        rw [if_neg z]
        simp only [wG, d1, Option.bind_some]
      rw [eo, Option.bind_some, if_neg (n10 H1)]
      obtain ⟨G1, b1, b2, b3⟩ := opr_H hc hLS (by omega) ⟨by omega, by omega, by omega⟩ (Or.inr ⟨c129, hcond, hlast⟩)
      rw [if_neg (show ¬ kC B L q = 40 by omega), if_pos c129, c129, Int.add_zero] at b3
      have hR1 : Rch G i 1 G1 (i + 1) 1 := Rch_opr hA h8 b1
      rcases hrec (by omega) G1 H1 (i + 1) (nq B L q) (129 :: s) cd cond 129 st b3 hM1 (show rk 129 < 4 by decide) (by rw [List.length_cons]; omega) (by omega) hcond (by omega) with ⟨G2, H2, i2, q2, nt2, x1, ⟨t, cd', f, last2, y1, y2, y3, y4, y5, y6, y7, y8, y9, y10, y11⟩, x3⟩ | ⟨H2, k, x, x1, x2, x3, x4⟩
      · left
        dsimp only
        rw [x1, Option.bind_some, if_neg (n10 H2)]
        have hi2 := (atC_hd y4.1).1
        have v51 : gi H2 81 51 = ((d + 1 : Nat) : Int) := y6.2.1
        have hM4 : MS (si H2 81 51 (((d + 1 : Nat) : Int) - 1)) B L q2 d (st ++ f) := ⟨atM_si (by decide) y6.1, by rw [gi_si, if_pos ⟨rfl, rfl⟩, wr_of (by omega) (by omega)]; omega, by rw [gi_si, if_neg (by omega)]; exact y6.2.2.1, fun j hj => by rw [gi_ne (by decide), gi_ne (by decide)]; exact y6.2.2.2.1 j hj, by rw [gi_si, if_neg (by omega)]; exact y6.2.2.2.2⟩
        obtain ⟨H3, e1, e2, e3, -⟩ := lay_M (a := 15) (b := 0) (by decide) wr_zero (by rw [List.length_append]; omega) hM4
        refine ⟨G2, H3, i2, q2, nt2, ?_, ⟨t ++ [129], cd', f ++ [(15, 0)], last2, by omega, hR1.trans (by omega) y2, b2.trans y3, ?_, hH1.trans (y5.trans (FH_51.trans e2)), ?_, ?_, ?_, ?_, ?_, ?_⟩, x3⟩
        · dsimp only [wG]
          rw [v51, e1]; rfl
        · rw [List.append_assoc]; exact y4
        · rw [← List.append_assoc]; exact e3
        · intro a ha
          rcases List.mem_append.mp ha with w | w
          · exact y7 a w
          · rw [List.mem_singleton.mp w]; decide
        · rw [flush_app, ← List.append_assoc, y8, clsF_app]
          simp only [List.append_assoc]
          rfl
        · exact okV_app y9 (fun x hx w => by rw [List.mem_singleton.mp hx] at w; exact absurd (show (15 : Int) = 0 from w) (by decide))
        · intro S hS
          rw [typF_app, y10 S (by omega), Option.bind_some, typF_c]
          have : typI (15, 0) (true :: S) = some (true :: S) := by
            unfold typI
            rw [if_neg (by simp only [List.length_cons]; omega), if_neg (by decide), if_neg (by decide)]
            cases S with
            | nil => rfl
            | cons b S => cases b <;> rfl
          rw [this]; rfl
        · rw [List.length_append]; simp only [List.length_singleton]; omega
      · right
        dsimp only
        rw [x1]
        exact ⟨H2, k, x, rfl, x2.of hH1, x3, x4.of hR1 (by omega) b2⟩
  · rw [if_neg (fun y => c129 (t18.1 y))]
    rcases sumC_S hc hL hd G H i q s cd 0 d 0 cond last st hLS hMS (lowS_mono (by decide) _ hlow) (by omega) hst (by omega) (by omega) (by omega) (by omega) (fun y => c129 y.1) with ⟨G2, H2, i2, q2, x1, x2, x0⟩ | ⟨H2, k, x, x1, x2, x3, x4⟩
    · rw [x1, Option.bind_some, if_neg (n10 H2)]
      have x2' := x2.weak (rt' := 5) (tb' := 9 + 3 * d) (by decide) (by omega)
      have go : ∀ op code : Int, (op = 60 ∧ code = 12) ∨ (op = 61 ∧ code = 13) ∨ (op = 62 ∧ code = 14) → kC B L q2 = op → (∃ G' H' i' q' nt', f_Model_one_L96 rec H2 code = some (1, H') ∧ Mid c B L G H i s cd st d 3 true (9 + 3 * d) cond 0 nt' 1 G' H' i' q' ∧ noA (kC B L q')) ∨ ∃ H' k x, f_Model_one_L96 rec H2 code = some (0, H') ∧ BadH H H' k x ∧ (1 ≤ k ∧ k ≤ 3) ∧ Bdf G c i 1 k x := by
        intro op code hop hK
        have hrk : rk op = 4 := by rcases hop with z | z | z <;> rw [z.1] <;> rfl
        obtain ⟨G3, H3, f, e1, e2, e3, e4, e5, e6, e7, e8, e9, e10, e11, e12⟩ := mid_op hc x2' op hK (by omega) (by rw [hrk]; exact hlow) (by omega) hst (by omega)
        rw [if_neg (by omega), if_neg (by omega), if_pos (by omega)] at e6
        rw [f_Model_one_L96, if_neg (by omega), e1, Option.bind_some]
        rcases sumC_S hc hL hd G3 H3 (i2 + 1) (nq B L q2) (op :: s) (cd ++ clsF f) 0 d 1 cond op (st ++ f) e6 e7 (show rk op < 5 by omega) (by rw [List.length_cons]; omega) (by rw [List.length_append]; omega) (by omega) (by omega) (by omega) (by omega) (by omega) with ⟨G4, H4, i4, q4, w1, w2, w0⟩ | ⟨H4, k, x, w1, w2, w3, w4⟩
        · obtain ⟨H5, y1, y2⟩ := mid_lay (ty3 := true) op code (by omega) e3 e4 e5 e8 e9 (by omega) hst w2 (rt := 3) (by omega) (by decide) (by omega) (by omega) (by rcases hop with z | z | z <;> rw [z.1, z.2] <;> rfl) (fun S hS => by
            unfold typI
            rw [if_neg (by simp only [List.length_cons]; omega), if_neg (show ¬ code < 0 by omega), if_neg (show ¬ code < 8 by omega)]
            show (if _ then _ else _) = _
            rw [if_neg (show ¬ code ≤ 10 by omega), if_neg (fun y => by have := y.1; dsimp only at this; omega), if_pos (show 12 ≤ code ∧ code ≤ 14 by omega)])
          left
          rw [w1, Option.bind_some, if_neg (n10 H4), y1, Option.bind_some]
          exact ⟨G4, H5, i4, q4, _, rfl, y2, w0⟩
        · right
          rw [w1]
          exact ⟨H4, k, x, rfl, w2.of e5, w3, w4.of e3 (by omega) e4⟩
      obtain ⟨t, cd', f, last2, y1, y2, y3, y4, y5, y6, y7, y8, y9, y10, y11⟩ := x2
      have t60 := mLi (a := 60) (b := 60) (by decide +kernel) B L q2
      have t61 := mLi (a := 61) (b := 61) (by decide +kernel) B L q2
      have t62 := mLi (a := 62) (b := 62) (by decide +kernel) B L q2
      have hi2 := (atC_hd y4.1).1
      have hq2 := y4.1.2.2.1
      rw [y6.1.2.1]
      by_cases c60 : kC B L q2 = 60
      · rw [if_pos (t60.2 c60)]
        exact go 60 12 (Or.inl ⟨rfl, rfl⟩) c60
      · rw [if_neg (fun w => c60 (t60.1 w))]
        by_cases c61 : kC B L q2 = 61
        · rw [if_pos (t61.2 c61)]
          exact go 61 13 (Or.inr (Or.inl ⟨rfl, rfl⟩)) c61
        · rw [if_neg (fun w => c61 (t61.1 w))]
          by_cases c62 : kC B L q2 = 62
          · rw [if_pos (t62.2 c62)]
            exact go 62 14 (Or.inr (Or.inr ⟨rfl, rfl⟩)) c62
          · right
            rw [if_neg (fun w => c62 (t62.1 w)), f_Model_one_L96, if_pos rfl, bad_at y6.1]
            have hm : f_LawReader_mayFollow G2 (kC B L q2) = some 0 := by
              rw [mayF y4.2.2.2.1.2.1 y4.2.2.2.1.2.2.2.1 y4.2.2.2.1.2.2.2.2, if_neg]
              obtain ⟨p1, p2, p3, p4⟩ := x0
              omega
            have hB := Bd_stop hc (by omega) y4 hm (Or.inr ⟨hcond, rfl⟩)
            exact ⟨bad H2 1 q2, 1, q2, rfl, (BadH_bad rfl (by omega)).of y5, by omega, hB.of y2 y1 y3⟩
    · right
      rw [x1]
      exact ⟨H2, k, x, rfl, x2, x3, x4⟩
theorem oneN_S {c : Nat} {B : Nat → Int} {L : Nat} (hc : lawC c = true) (hL : L ≤ 800) : ∀ (n d : Nat), 9 ≤ n + d → d ≤ 8 → SimC c B L (f_Model_oneN n) d 4 3 (3 + 3 * d) (9 + 3 * d) noA := by
  intro n
  induction n with
  | zero => intro d h1 h2; omega
  | succ n ih =>
    intro d h1 h2
    exact one_S hc hL h2 (fun h3 => ih (d + 1) (by omega) (by omega))
theorem oneC_S {c : Nat} {B : Nat → Int} {L : Nat} (hc : lawC c = true) (hL : L ≤ 800) : SimC c B L f_Model_oneC 0 4 3 3 9 noA := oneN_S hc hL 10 0 (by omega) (by omega)
def noL (K : Int) : Prop := noA K ∧ K ≠ 128
def noY (K : Int) : Prop := noA K ∧ K ≠ 128 ∧ K ≠ 127
theorem allL_S {c : Nat} {B : Nat → Int} {L : Nat} (hc : lawC c = true) (hL : L ≤ 800) {G0 H0 : GS} {i0 : Nat} {s cd : List Int} {st : Fm} {cond : Int} (hs : lowS 2 s) (hl : s.length ≤ 2) (hst : st.length ≤ i0) (hcond : cond ≠ 0) : ∀ (n : Nat) (G H : GS) (i q : Nat) (nt : Int), 802 ≤ n + i → Mid c B L G0 H0 i0 s cd st 0 2 true 8 cond 0 nt 1 G H i q → noA (kC B L q) → (∃ G' H' i' q' nt', f_Model_all_L9 n H = some (1, H') ∧ Mid c B L G0 H0 i0 s cd st 0 2 true 8 cond 0 nt' 1 G' H' i' q' ∧ noL (kC B L q')) ∨ ∃ H' k x, f_Model_all_L9 n H = some (0, H') ∧ BadH H0 H' k x ∧ (1 ≤ k ∧ k ≤ 3) ∧ Bdf G0 c i0 1 k x := by
  intro n
  induction n with
  | zero =>
    intro G H i q nt hn hM
    obtain ⟨t, cd', f, last, a1, a2, a3, a4, a5, a6, a7, a8, a9, a10, a11⟩ := hM
    have := (atC_hd a4.1).1
    omega
  | succ n ih =>
    intro G H i q nt hn hM hno
    have t17 := mLi (a := 128) (b := 17) (by decide +kernel) B L q
    have m45 : gi H 81 45 = mC 1 B L q := by
      obtain ⟨t, cd', f, last, a1, a2, a3, a4, a5, a6, a7⟩ := hM
      exact a6.1.2.1
    rw [f_Model_all_L9, m45]
    by_cases cK : kC B L q = 128
    · rw [if_pos (t17.2 cK)]
      obtain ⟨G1, H1, f, e1, e2, e3, e4, e5, e6, e7, e8, e9, e10, e11, e12⟩ := mid_op hc hM 128 cK (by decide) (show lowS 2 s from hs) (by omega) hst (by omega)
      rw [if_pos (by decide), if_pos (by decide)] at e6
      rw [e1, Option.bind_some]
      rcases oneC_S hc hL G1 H1 (i + 1) (nq B L q) (128 :: s) (cd ++ clsF f) cond 128 (st ++ f) e6 e7 (show rk 128 < 4 by decide) (by rw [List.length_cons]; omega) (by rw [List.length_append]; omega) hcond (by omega) with ⟨G2, H2, i2, q2, nt2, x1, x2, x0⟩ | ⟨H2, k, x, x1, x2, x3, x4⟩
      · obtain ⟨H3, y1, y2⟩ := mid_lay (ty3 := true) 128 16 (by omega) e3 e4 e5 e8 e9 (by omega) hst x2 (rt := 2) (by decide) (by decide) (by omega) (by decide) rfl (fun S hS => by
          unfold typI
          rw [if_neg (by simp only [List.length_cons]; omega)]
          rfl)
        rw [x1, Option.bind_some, if_neg (n10 H2), y1, Option.bind_some]
        have hi2 : i + 1 ≤ i2 := by obtain ⟨t, cd', g, last, z1, z2⟩ := x2; exact z1
        exact ih G2 H3 i2 q2 nt2 (by omega) y2 x0
      · right
        rw [x1]
        exact ⟨H2, k, x, rfl, x2.of e5, x3, x4.of e3 (by omega) e4⟩
    · rw [if_neg (fun y => cK (t17.1 y))]
      exact Or.inl ⟨G, H, i, q, nt, rfl, hM, hno, cK⟩
theorem all_S {c : Nat} {B : Nat → Int} {L : Nat} (hc : lawC c = true) (hL : L ≤ 800) : SimC c B L f_Model_all 0 2 2 2 8 noL := by
  intro G H i q s cd cond last st hLS hMS hlow hsl hst hcond hlast
  rw [f_Model_all]
  rcases oneC_S hc hL G H i q s cd cond last st hLS hMS (lowS_mono (by decide) _ hlow) (by omega) hst hcond hlast with ⟨G2, H2, i2, q2, nt2, x1, x2, x0⟩ | ⟨H2, k, x, x1, x2, x3, x4⟩
  · rw [x1, Option.bind_some, if_neg (n10 H2)]
    exact allL_S hc hL hlow hsl hst hcond FU G2 H2 i2 q2 nt2 (by unfold FU; omega) (x2.weak (by decide) (by omega)) x0
  · right
    rw [x1]
    exact ⟨H2, k, x, rfl, x2, x3, x4⟩
theorem anyL_S {c : Nat} {B : Nat → Int} {L : Nat} (hc : lawC c = true) (hL : L ≤ 800) {G0 H0 : GS} {i0 : Nat} {s cd : List Int} {st : Fm} {cond : Int} (hs : lowS 1 s) (hl : s.length ≤ 1) (hst : st.length ≤ i0) (hcond : cond ≠ 0) : ∀ (n : Nat) (G H : GS) (i q : Nat) (nt : Int), 802 ≤ n + i → Mid c B L G0 H0 i0 s cd st 0 1 true 7 cond 0 nt 1 G H i q → noL (kC B L q) → (∃ G' H' i' q' nt', f_Model_any_L9 n H = some (1, H') ∧ Mid c B L G0 H0 i0 s cd st 0 1 true 7 cond 0 nt' 1 G' H' i' q' ∧ noY (kC B L q')) ∨ ∃ H' k x, f_Model_any_L9 n H = some (0, H') ∧ BadH H0 H' k x ∧ (1 ≤ k ∧ k ≤ 3) ∧ Bdf G0 c i0 1 k x := by
  intro n
  induction n with
  | zero =>
    intro G H i q nt hn hM
    obtain ⟨t, cd', f, last, a1, a2, a3, a4, a5, a6, a7, a8, a9, a10, a11⟩ := hM
    have := (atC_hd a4.1).1
    omega
  | succ n ih =>
    intro G H i q nt hn hM hno
    have t16 := mLi (a := 127) (b := 16) (by decide +kernel) B L q
    have m45 : gi H 81 45 = mC 1 B L q := by
      obtain ⟨t, cd', f, last, a1, a2, a3, a4, a5, a6, a7⟩ := hM
      exact a6.1.2.1
    rw [f_Model_any_L9, m45]
    by_cases cK : kC B L q = 127
    · rw [if_pos (t16.2 cK)]
      obtain ⟨G1, H1, f, e1, e2, e3, e4, e5, e6, e7, e8, e9, e10, e11, e12⟩ := mid_op hc hM 127 cK (by decide) (show lowS 1 s from hs) (by omega) hst (by omega)
      rw [if_pos (by decide), if_pos (by decide)] at e6
      rw [e1, Option.bind_some]
      rcases all_S hc hL G1 H1 (i + 1) (nq B L q) (127 :: s) (cd ++ clsF f) cond 127 (st ++ f) e6 e7 (show rk 127 < 2 by decide) (by rw [List.length_cons]; omega) (by rw [List.length_append]; omega) hcond (by omega) with ⟨G2, H2, i2, q2, nt2, x1, x2, x0⟩ | ⟨H2, k, x, x1, x2, x3, x4⟩
      · obtain ⟨H3, y1, y2⟩ := mid_lay (ty3 := true) 127 17 (by omega) e3 e4 e5 e8 e9 (by omega) hst x2 (rt := 1) (by decide) (by decide) (by omega) (by decide) rfl (fun S hS => by
          unfold typI
          rw [if_neg (by simp only [List.length_cons]; omega)]
          rfl)
        rw [x1, Option.bind_some, if_neg (n10 H2), y1, Option.bind_some]
        have hi2 : i + 1 ≤ i2 := by obtain ⟨t, cd', g, last, z1, z2⟩ := x2; exact z1
        exact ih G2 H3 i2 q2 nt2 (by omega) y2 x0
      · right
        rw [x1]
        exact ⟨H2, k, x, rfl, x2.of e5, x3, x4.of e3 (by omega) e4⟩
    · rw [if_neg (fun y => cK (t16.1 y))]
      exact Or.inl ⟨G, H, i, q, nt, rfl, hM, hno.1, hno.2, cK⟩
theorem any_S {c : Nat} {B : Nat → Int} {L : Nat} (hc : lawC c = true) (hL : L ≤ 800) : SimC c B L f_Model_any 0 1 1 1 7 noY := by
  intro G H i q s cd cond last st hLS hMS hlow hsl hst hcond hlast
  rw [f_Model_any]
  rcases all_S hc hL G H i q s cd cond last st hLS hMS (lowS_mono (by decide) _ hlow) (by omega) hst hcond hlast with ⟨G2, H2, i2, q2, nt2, x1, x2, x0⟩ | ⟨H2, k, x, x1, x2, x3, x4⟩
  · rw [x1, Option.bind_some, if_neg (n10 H2)]
    exact anyL_S hc hL hlow hsl hst hcond FU G2 H2 i2 q2 nt2 (by unfold FU; omega) (x2.weak (by decide) (by omega)) x0
  · right
    rw [x1]
    exact ⟨H2, k, x, rfl, x2, x3, x4⟩
