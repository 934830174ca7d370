def PreA (o nt cond : Int) (d : Nat) : Prop := o + nt = d ∧ 0 ≤ o ∧ 0 ≤ nt
theorem prodL_S {c : Nat} {B : Nat → Int} {L : Nat} {rec : GS → Option (Int × GS)} {d : Nat} (hc : lawC c = true) (hL : L ≤ 800) (hd : d ≤ 8) (hU : SimA c B L (f_Model_unit rec) d 7 7 (6 + 3 * d) (12 + 3 * d) (fun _ => True)) {G0 H0 : GS} {i0 : Nat} {s cd : List Int} {st : Fm} {cond o nt cmp : Int} (hs : lowS 6 s) (hl : s.length ≤ 5 + 3 * d) (hst : st.length ≤ i0) (hp : PreA o nt cond d) : ∀ (n : Nat) (G H : GS) (i q : Nat), 802 ≤ n + i → Mid c B L G0 H0 i0 s cd st d 6 false (11 + 3 * d) cond o nt cmp G H i q → (∃ G' H' i' q', f_Model_product_L9 rec n H = some (1, H') ∧ Mid c B L G0 H0 i0 s cd st d 6 false (11 + 3 * d) cond o nt cmp G' H' i' q' ∧ noP (kC B L q')) ∨ ∃ H' k x, f_Model_product_L9 rec n H = some (0, H') ∧ BadH H0 H' k x ∧ (1 ≤ k ∧ k ≤ 3) ∧ Bdf G0 c i0 1 k x := by
  intro n
  induction n with
  | zero =>
    intro G H i q hn hM
    obtain ⟨t, cd', f, last, a1, a2, a3, a4, a5, a6, a7, a8, a9, a10, a11⟩ := hM
    have := (atC_hd a4.1).1
    omega
  | succ n ih =>
    intro G H i q hn hM
    have hM0 := hM
    obtain ⟨p1, p2, p3⟩ := hp
    have t42 := mLi (a := 42) (b := 42) (by decide +kernel) B L q
    have t47 := mLi (a := 47) (b := 47) (by decide +kernel) B L q
    have m45 : gi H 81 45 = mC 1 B L q := by
      obtain ⟨t, cd', f, last, a1, a2, a3, a4, a5, a6, a7⟩ := hM
      exact a6.1.2.1
    rw [f_Model_product_L9, m45]
    by_cases c42 : kC B L q = 42
    · rw [if_pos (t42.2 c42), f_Model_product_L27, m45, if_neg (fun y => by have := t47.1 y; omega), f_Model_product_L41]
      obtain ⟨G1, H1, f, e1, e2, e3, e4, e5, e6, e7, e8, e9, e10, e11, e12⟩ := mid_op hc hM 42 c42 (by decide) hs (by omega) hst (by omega)
      rw [if_neg (by decide), if_neg (by decide), if_neg (by decide)] at e6
      rw [e1, Option.bind_some, if_pos rfl]
      have hi1 := (atC_hd e6.1).1
      rcases hU G1 H1 (i + 1) (nq B L q) (42 :: s) (cd ++ clsF f) o nt cmp cond 42 (st ++ f) e6 e7 (lowS_7 _) (by rw [List.length_cons]; omega) (by rw [List.length_append]; omega) p1 p2 p3 (by decide) (by omega) with ⟨G2, H2, i2, q2, x1, x2, -⟩ | ⟨H2, k, x, x1, x2, x3, x4⟩
      · obtain ⟨H3, y1, y2⟩ := mid_lay (ty3 := false) 42 10 (by omega) e3 e4 e5 e8 e9 (by omega) hst x2 (rt := 6) (by decide) (by decide) (by omega) (by decide) rfl (fun S hS => by
          unfold typI
          rw [if_neg (by simp only [List.length_cons]; omega)]
          rfl)
        rw [x1, Option.bind_some, if_neg (n10 H2), y1, Option.bind_some, f_Model_product_L110]
        have hi2 : i + 1 ≤ i2 := by obtain ⟨t, cd', g, last, z1, z2⟩ := x2; exact z1
        exact ih G2 H3 i2 q2 (by omega) y2
      · right
        rw [x1]
        exact ⟨H2, k, x, rfl, x2.of e5, x3, x4.of e3 (by omega) e4⟩
    · rw [if_neg (fun y => c42 (t42.1 y))]
      by_cases c47 : kC B L q = 47
      · rw [if_pos (t47.2 c47), f_Model_product_L27, m45, if_pos (t47.2 c47), f_Model_product_L41]
        obtain ⟨G1, H1, f, e1, e2, e3, e4, e5, e6, e7, e8, e9, e10, e11, e12⟩ := mid_op hc hM 47 c47 (by decide) hs (by omega) hst (by omega)
        rw [if_neg (by decide), if_neg (by decide), if_neg (by decide)] at e6
        rw [e1, Option.bind_some, if_neg (by decide)]
        have hA1 := e6.1
        have hi1 := (atC_hd hA1).1
        have hq1 := hA1.2.2.1
        have vb := vC_b B L (nq B L q)
        have t2 := mLi (a := 2) (b := 2) (by decide +kernel) B L (nq B L q)
        rw [e7.1.2.1]
        by_cases c2 : kC B L (nq B L q) = 2
        · rw [if_pos (t2.2 c2), val_M e7.1 (t2.2 c2)]
          by_cases c0 : vC B L (nq B L q) = 0
          · right
            rw [if_pos c0, bad_at e7.1]
            obtain ⟨G2, g1, g2, g3, g4, g5⟩ := opr_2 hc e6 c2 rfl c0
            have hB := Bd_opr hc hA1 e6.2.1 g1 g2 g3 g4 (g5 (by omega)) (by decide)
            exact ⟨bad H1 2 (nq B L q), 2, nq B L q, rfl, (BadH_bad rfl (by omega)).of e5, by omega, hB.of e3 (by omega) e4⟩
          · rw [if_neg c0]
            obtain ⟨H2, d1, d2, d3, -⟩ := lay_M (a := 11) (b := vC B L (nq B L q)) (by decide) (wr_of (by omega) (by omega)) (by rw [List.length_append]; omega) e7
            have hq1' : nq B L q < L := kC_lt (B := B) (by omega)
            obtain ⟨H3, r1, r2, r3⟩ := next_at d3.1 hq1'
            obtain ⟨G2, g1, g2, g3⟩ := opr_S hc e6 (Or.inl ⟨c2, fun _ => c0⟩)
            rw [d1, Option.bind_some, r1, Option.bind_some, f_Model_product_L110]
            rw [if_pos c2] at g3
            refine ih G2 H3 (i + 1 + 1) (nq B L (nq B L q)) (by omega) ⟨[47], _, f ++ [(11, vC B L (nq B L q))], _, by omega, e3.trans (by omega) (Rch_opr hA1 e6.2.1 g1), e4.trans g2, g3, e5.trans (d2.trans (FH_Mx r2)), ?_, ?_, ?_, ?_, ?_, ?_⟩
            · rw [← List.append_assoc]; exact MS_Mx r3 r2 d3
            · intro a ha
              rw [List.mem_singleton.mp ha]; decide
            · rw [clsF_app]
              simp only [List.append_assoc]
              rfl
            · exact okV_app e8 (fun x hx z => by rw [List.mem_singleton.mp hx] at z; exact absurd (show (11 : Int) = 0 from z) (by decide))
            · intro S hS
              rw [typF_app, e9 S hS, Option.bind_some, typF_c]
              have : typI (11, vC B L (nq B L q)) (false :: S) = some (false :: S) := by
                unfold typI
                rw [if_neg (by simp only [List.length_cons]; omega), if_neg (show ¬ (11 : Int) < 0 by decide), if_neg (show ¬ (11 : Int) < 8 by decide)]
                have hv : (11 : Int) = 11 ∧ 1 ≤ vC B L (nq B L q) ∧ vC B L (nq B L q) ≤ 99999 := ⟨rfl, by omega, vb.2⟩
                cases S with
                | nil => show (if _ then _ else _) = _; rw [if_pos hv]
                | cons b S =>
                  cases b
                  · show (if _ then _ else _) = _
                    rw [if_neg (show ¬ (11 : Int) ≤ 10 by decide), if_pos hv]
                  · show (if _ then _ else _) = _
                    rw [if_pos hv]
              rw [this]; rfl
            · rw [List.length_append]; simp only [List.length_singleton]; omega
        · right
          rw [if_neg (fun y => c2 (t2.1 y)), bad_at e7.1]
          have hB := Bd_opr hc hA1 e6.2.1 (opr_1 e6 c2 (fun y => y.2 rfl) (fun y => y.2 rfl) (by omega)) (FL_flt (by decide)) (SB_flt (q := nq B L q) (k := 1) hc e6.2.2.1) (flt_8 rfl) (flt_9 (by omega)) (by decide)
          exact ⟨bad H1 1 (nq B L q), 1, nq B L q, rfl, (BadH_bad rfl (by omega)).of e5, by omega, hB.of e3 (by omega) e4⟩
      · rw [if_neg (fun y => c47 (t47.1 y))]
        exact Or.inl ⟨G, H, i, q, rfl, hM0, c42, c47⟩
theorem prod_S {c : Nat} {B : Nat → Int} {L : Nat} {rec : GS → Option (Int × GS)} {d : Nat} (hc : lawC c = true) (hL : L ≤ 800) (hd : d ≤ 8) (hU : SimA c B L (f_Model_unit rec) d 7 7 (6 + 3 * d) (12 + 3 * d) (fun _ => True)) : SimA c B L (f_Model_product rec) d 6 6 (5 + 3 * d) (11 + 3 * d) noP := by
  intro G H i q s cd o nt cmp cond last st hLS hMS hlow hsl hst hod ho hnt hlast hneg
  rw [f_Model_product]
  rcases hU G H i q s cd o nt cmp cond last st hLS hMS (lowS_7 _) (by omega) hst hod ho hnt hlast hneg with ⟨G2, H2, i2, q2, x1, x2, -⟩ | ⟨H2, k, x, x1, x2, x3, x4⟩
  · rw [x1, Option.bind_some, if_neg (n10 H2)]
    exact prodL_S hc hL hd hU hlow hsl hst ⟨hod, ho, hnt⟩ FU G2 H2 i2 q2 (by unfold FU; omega) (x2.weak (by decide) (by omega))
  · right
    rw [x1]
    exact ⟨H2, k, x, rfl, x2, x3, x4⟩
theorem sumL_S {c : Nat} {B : Nat → Int} {L : Nat} {rec : GS → Option (Int × GS)} {d : Nat} (hc : lawC c = true) (hL : L ≤ 800) (hd : d ≤ 8) (hU : SimA c B L (f_Model_product rec) d 6 6 (5 + 3 * d) (11 + 3 * d) noP) {G0 H0 : GS} {i0 : Nat} {s cd : List Int} {st : Fm} {cond o nt cmp : Int} (hs : lowS 5 s) (hl : s.length ≤ 4 + 3 * d) (hst : st.length ≤ i0) (hp : PreA o nt cond d) : ∀ (n : Nat) (G H : GS) (i q : Nat), 802 ≤ n + i → Mid c B L G0 H0 i0 s cd st d 5 false (10 + 3 * d) cond o nt cmp G H i q → noP (kC B L q) → (∃ G' H' i' q', f_Model_sumOf_L9 rec n H = some (1, H') ∧ Mid c B L G0 H0 i0 s cd st d 5 false (10 + 3 * d) cond o nt cmp G' H' i' q' ∧ noA (kC B L q')) ∨ ∃ H' k x, f_Model_sumOf_L9 rec n H = some (0, H') ∧ BadH H0 H' k x ∧ (1 ≤ k ∧ k ≤ 3) ∧ Bdf G0 c i0 1 k x := by
  intro n
  induction n with
  | zero =>
    intro G H i q hn hM
    obtain ⟨t, cd', f, last, a1, a2, a3, a4, a5, a6, a7, a8, a9, a10, a11⟩ := hM
    have := (atC_hd a4.1).1
    omega
  | succ n ih =>
    intro G H i q hn hM hno
    have hM0 := hM
    obtain ⟨p1, p2, p3⟩ := hp
    have t43 := mLi (a := 43) (b := 43) (by decide +kernel) B L q
    have t45 := mLi (a := 45) (b := 45) (by decide +kernel) B L q
    have m45 : gi H 81 45 = mC 1 B L q := by
      obtain ⟨t, cd', f, last, a1, a2, a3, a4, a5, a6, a7⟩ := hM
      exact a6.1.2.1
    have go : ∀ op code : Int, (op = 43 ∧ code = 8) ∨ (op = 45 ∧ code = 9) → kC B L q = op → (∃ G' H' i' q', f_Model_sumOf_L43 rec (f_Model_sumOf_L9 rec n) H code = some (1, H') ∧ Mid c B L G0 H0 i0 s cd st d 5 false (10 + 3 * d) cond o nt cmp G' H' i' q' ∧ noA (kC B L q')) ∨ ∃ H' k x, f_Model_sumOf_L43 rec (f_Model_sumOf_L9 rec n) H code = some (0, H') ∧ BadH H0 H' k x ∧ (1 ≤ k ∧ k ≤ 3) ∧ Bdf G0 c i0 1 k x := by
      intro op code hop hK
      have hrk : rk op = 5 := by rcases hop with z | z <;> rw [z.1] <;> rfl
      obtain ⟨G1, H1, f, e1, e2, e3, e4, e5, e6, e7, e8, e9, e10, e11, e12⟩ := mid_op hc hM op hK (by omega) (by rw [hrk]; exact hs) (by omega) hst (by omega)
      rw [if_neg (by omega), if_neg (by omega), if_neg (by omega)] at e6
      rw [f_Model_sumOf_L43, e1, Option.bind_some]
      have hi1 := (atC_hd e6.1).1
      rcases hU G1 H1 (i + 1) (nq B L q) (op :: s) (cd ++ clsF f) o nt cmp cond op (st ++ f) e6 e7 (show rk op < 6 by omega) (by rw [List.length_cons]; omega) (by rw [List.length_append]; omega) p1 p2 p3 (by omega) (by omega) with ⟨G2, H2, i2, q2, x1, x2, x0⟩ | ⟨H2, k, x, x1, x2, x3, x4⟩
      · obtain ⟨H3, y1, y2⟩ := mid_lay (ty3 := false) op code (by omega) e3 e4 e5 e8 e9 (by omega) hst x2 (rt := 5) (by omega) (by decide) (by omega) (by omega) (by rcases hop with z | z <;> rw [z.1, z.2] <;> rfl) (fun S hS => by
          unfold typI
          rw [if_neg (by simp only [List.length_cons]; omega), if_neg (show ¬ code < 0 by omega), if_neg (show ¬ code < 8 by omega)]
          show (if _ then _ else _) = _
          rw [if_pos (show code ≤ 10 by omega)])
        rw [x1, Option.bind_some, if_neg (n10 H2), y1, Option.bind_some]
        have hi2 : i + 1 ≤ i2 := by obtain ⟨t, cd', g, last, z1, z2⟩ := x2; exact z1
        exact ih G2 H3 i2 q2 (by omega) y2 x0
      · right
        rw [x1]
        exact ⟨H2, k, x, rfl, x2.of e5, x3, x4.of e3 (by omega) e4⟩
    rw [f_Model_sumOf_L9, m45]
    by_cases c43 : kC B L q = 43
    · rw [if_pos (t43.2 c43), f_Model_sumOf_L27, m45, if_pos (t43.2 c43)]
      exact go 43 8 (Or.inl ⟨rfl, rfl⟩) c43
    · rw [if_neg (fun y => c43 (t43.1 y))]
      by_cases c45 : kC B L q = 45
      · rw [if_pos (t45.2 c45), f_Model_sumOf_L27, m45, if_neg (fun y => c43 (t43.1 y))]
        exact go 45 9 (Or.inr ⟨rfl, rfl⟩) c45
      · rw [if_neg (fun y => c45 (t45.1 y))]
        exact Or.inl ⟨G, H, i, q, rfl, hM0, hno.1, hno.2, c43, c45⟩
theorem sum_S {c : Nat} {B : Nat → Int} {L : Nat} {rec : GS → Option (Int × GS)} {d : Nat} (hc : lawC c = true) (hL : L ≤ 800) (hd : d ≤ 8) (hrec : d < 8 → SimA c B L rec (d + 1) 5 5 (4 + 3 * (d + 1)) (10 + 3 * (d + 1)) noA) : SimA c B L (f_Model_sumOf rec) d 5 5 (4 + 3 * d) (10 + 3 * d) noA := by
  have hU := prod_S hc hL hd (unit_S hc hL hd hrec)
  intro G H i q s cd o nt cmp cond last st hLS hMS hlow hsl hst hod ho hnt hlast hneg
  rw [f_Model_sumOf]
  rcases hU G H i q s cd o nt cmp cond last st hLS hMS (lowS_mono (by decide) _ hlow) (by omega) hst hod ho hnt hlast hneg with ⟨G2, H2, i2, q2, x1, x2, x0⟩ | ⟨H2, k, x, x1, x2, x3, x4⟩
  · rw [x1, Option.bind_some, if_neg (n10 H2)]
    exact sumL_S hc hL hd hU hlow hsl hst ⟨hod, ho, hnt⟩ FU G2 H2 i2 q2 (by unfold FU; omega) (x2.weak (by decide) (by omega)) x0
  · right
    rw [x1]
    exact ⟨H2, k, x, rfl, x2, x3, x4⟩
theorem sumN_S {c : Nat} {B : Nat → Int} {L : Nat} (hc : lawC c = true) (hL : L ≤ 800) : ∀ (n d : Nat), 9 ≤ n + d → d ≤ 8 → SimA c B L (f_Model_sumOfN n) d 5 5 (4 + 3 * d) (10 + 3 * d) noA := by
  intro n
  induction n with
  | zero => intro d h1 h2; omega
  | succ n ih =>
    intro d h1 h2
    exact sum_S hc hL h2 (fun h3 => ih (d + 1) (by omega) (by omega))
theorem sumC_S {c : Nat} {B : Nat → Int} {L : Nat} (hc : lawC c = true) (hL : L ≤ 800) {d : Nat} (hd : d ≤ 8) : SimA c B L f_Model_sumOfC d 5 5 (4 + 3 * d) (10 + 3 * d) noA := sumN_S hc hL 12 d (by omega) hd
