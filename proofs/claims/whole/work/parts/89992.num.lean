/-! a number's formula: unit, product, sum -/
def SimA (c : Nat) (B : Nat → Int) (L : Nat) (X : GS → Option (Int × GS)) (d : Nat) (rl rt : Int) (sb tb : Nat) (stop : Int → Prop) : Prop := ∀ (G H : GS) (i q : Nat) (s cd : List Int) (o nt cmp cond last : Int) (st : Fm), LSf G c B L i q s cd o nt cmp cond last → MS H B L q d st → lowS rl s → s.length ≤ sb → st.length ≤ i → o + nt = d → 0 ≤ o → 0 ≤ nt → last ≠ 47 → ¬ (kC B L q = 129 ∧ cond ≠ 0 ∧ (last = 0 ∨ last = 129 ∨ last = 128 ∨ last = 127)) → (∃ G' H' i' q', X H = some (1, H') ∧ Mid c B L G H i s cd st d rt false tb cond o nt cmp G' H' i' q' ∧ stop (kC B L q')) ∨ ∃ H' k x, X H = some (0, H') ∧ BadH H H' k x ∧ (1 ≤ k ∧ k ≤ 3) ∧ Bdf G c i 1 k x
def noP (K : Int) : Prop := K ≠ 42 ∧ K ≠ 47
def noA (K : Int) : Prop := K ≠ 42 ∧ K ≠ 47 ∧ K ≠ 43 ∧ K ≠ 45
theorem unit_S {c : Nat} {B : Nat → Int} {L : Nat} {rec : GS → Option (Int × GS)} {d : Nat} (hc : lawC c = true) (hL : L ≤ 800) (hd : d ≤ 8) (hrec : d < 8 → SimA c B L rec (d + 1) 5 5 (4 + 3 * (d + 1)) (10 + 3 * (d + 1)) noA) : SimA c B L (f_Model_unit rec) d 7 7 (6 + 3 * d) (12 + 3 * d) (fun _ => True) := by
  intro G H i q s cd o nt cmp cond last st hLS hMS hlow hsl hst hod ho hnt hlast hneg
  have hr := law_rng hc
  have hA := hLS.1
  have h8 := hLS.2.1
  have hi8 := (atC_hd hA).1
  have hqL := hA.2.2.1
  have m45 := hMS.1.2.1
  have vb := vC_b B L q
  have t40 := mLi (a := 40) (b := 40) (by decide +kernel) B L q
  have t2 := mLi (a := 2) (b := 2) (by decide +kernel) B L q
  have t3 := mLi (a := 105) (b := 3) (by decide +kernel) B L q
  have t201 := of_decide_eq_true (mLp (fun K m => decide ((201 ≤ m ↔ ((100 ≤ K ∧ K ≤ 104) ∨ K = 106)) ∧ (201 ≤ m → m - 201 = K - 100))) (by decide +kernel) B L q)
  -- a unit of one token
  have lit : ∀ a b : Int, wr a = a → wr b = b → (0 ≤ a ∧ a < 8) → (a = 0 → 0 ≤ b ∧ b ≤ 99999) → clsI (a, b) = [if kC B L q = 2 then vC B L q else -(kC B L q)] → (kC B L q = 2 ∨ (100 ≤ kC B L q ∧ kC B L q ≤ 106)) → ∃ G' H' i' q', ((f_Model_lay H a b).bind fun q1 => (f_Model_next0 q1).bind fun q2 => some ((1 : Int), q2)) = some (1, H') ∧ Mid c B L G H i s cd st d 7 false (12 + 3 * d) cond o nt cmp G' H' i' q' ∧ True := by
    intro a b ha hb ha8 hab hcl hK
    obtain ⟨H1, e1, e2, e3, -⟩ := lay_M ha hb (by omega) hMS
    have hq : q < L := kC_lt (B := B) (by omega)
    obtain ⟨H2, d1, d2, d3⟩ := next_at e3.1 hq
    obtain ⟨G', b1, b2, b3⟩ := opr_S hc hLS (by omega)
    refine ⟨G', H2, i + 1, nq B L q, by rw [e1, Option.bind_some, d1]; rfl, ⟨[], _, [(a, b)], _, by omega, Rch_opr hA h8 b1, b2, b3, e2.trans (FH_Mx d2), MS_Mx d3 d2 e3, fun _ z => (by cases z), ?_, ?_, ?_, by simp only [List.length_singleton]; omega⟩, trivial⟩
    · rw [show flush [] = [] from rfl, List.append_nil, show clsF [(a, b)] = clsI (a, b) ++ [] from rfl, List.append_nil, hcl]
    · intro x hx z
      rw [List.mem_singleton.mp hx] at z ⊢
      exact hab z
    · intro S hS
      rw [typF_c]
      have : typI (a, b) S = some (false :: S) := by
        unfold typI
        rw [if_neg (by omega), if_neg (show ¬ a < 0 by omega), if_pos (show a < 8 by omega)]
      rw [this]; rfl
  have l78 : (kC B L q = 2 ∨ (100 ≤ kC B L q ∧ kC B L q ≤ 106)) → ∃ G' H' i' q', f_Model_unit_L78 rec H = some (1, H') ∧ Mid c B L G H i s cd st d 7 false (12 + 3 * d) cond o nt cmp G' H' i' q' ∧ True := by
    intro hK
    rw [f_Model_unit_L78, m45]
    by_cases z : kC B L q = 2
    · rw [if_pos (t2.2 z), f_Model_unit_L114, val_M hMS.1 (t2.2 z)]
      exact lit 0 (vC B L q) (by decide) (wr_of (by omega) (by omega)) (by decide) (fun _ => vb) (by rw [if_pos z]; rfl) (Or.inl z)
    · rw [if_neg (fun y => z (t2.1 y))]
      by_cases z3 : kC B L q = 105
      · rw [if_pos (t3.2 z3), f_Model_unit_L114]
        exact lit 6 (gi H 81 47) (by decide) (wr_of (gi_lo _ _ _) (gi_hi _ _ _)) (by decide) (fun y => absurd y (by decide)) (by rw [if_neg z, z3]; rfl) (Or.inr (by omega))
      · have h201 : 201 ≤ mC 1 B L q := t201.1.2 (by omega)
        have h201' := t201.2 h201
        rw [if_neg (fun y => z3 (t3.1 y)), f_Model_unit_L114, wr_of (x := (1 + mC 1 B L q) - 201) (by omega) (by omega)]
        refine lit ((1 + mC 1 B L q) - 201) (gi H 81 47) (wr_of (by omega) (by omega)) (wr_of (gi_lo _ _ _) (gi_hi _ _ _)) (by omega) (fun y => absurd y (by omega)) ?_ (Or.inr (by omega))
        unfold clsI
        rw [if_neg (show ¬ (1 + mC 1 B L q - 201 = 0) by omega), if_pos (show 1 + mC 1 B L q - 201 < 8 by omega), if_neg z]
        show [-(1 + mC 1 B L q - 201 + 99)] = _
        congr 1; omega
  rw [f_Model_unit, m45]
  by_cases c40 : kC B L q = 40
  · rw [if_pos (t40.2 c40), f_Model_opens, hMS.2.1]
    by_cases z : (d : Int) = 8
    · rw [if_pos z, bad_at hMS.1]
      refine Or.inr ⟨bad H 3 q, 3, q, rfl, BadH_bad rfl (by omega), by omega, ?_⟩
      exact Bd_opr hc hA h8 (opr_3 hLS (by omega) (Or.inl ⟨c40, hlast⟩)) (FL_flt (by decide)) (SB_flt hc hLS.2.2.1) (flt_8 rfl) (flt_9 (by omega)) (by decide)
    · have hq : q < L := kC_lt (B := B) (by omega)
      have hw : gi (si H 81 51 ((d : Int) + 1)) 81 51 = ((d + 1 : Nat) : Int) := by rw [gi_si, if_pos ⟨rfl, rfl⟩, wr_of (by omega) (by omega)]; omega
      have hM0 : MS (si H 81 51 ((d : Int) + 1)) B L q ((d + 1 : Nat) : Int) st := ⟨atM_si (by decide) hMS.1, hw, by rw [gi_si, if_neg (by omega)]; exact hMS.2.2.1, fun j hj => by rw [gi_ne (by decide), gi_ne (by decide)]; exact hMS.2.2.2.1 j hj, by rw [gi_si, if_neg (by omega)]; exact hMS.2.2.2.2⟩
      obtain ⟨H1, d1, d2, d3⟩ := next_at hM0.1 hq
      have hM1 := MS_Mx d3 d2 hM0
      have hH1 : FH H H1 := FH_51.trans (FH_Mx d2)
      have eo : ((if (d : Int) = 8 then (f_Model_bad H 3).bind fun q2 => some (q2.1, q2.2) else wG (si H 81 51 ((d : Int) + 1)) fun G1 => (f_Model_next0 G1).bind fun q1 => some ((1 : Int), q1)) : Option (Int × GS)) = some (1, H1) := by
        rw [if_neg z]
        simp only [wG, d1, Option.bind_some]
      rw [eo, Option.bind_some, if_neg (n10 H1)]
      obtain ⟨G1, b1, b2, b3⟩ := opr_H hc hLS (by omega) ⟨ho, hnt, by omega⟩ (Or.inl ⟨c40, hlast⟩)
      rw [if_pos c40, if_neg (show ¬ kC B L q = 129 by omega), c40, Int.add_zero] at b3
      have hR1 : Rch G i 1 G1 (i + 1) 1 := Rch_opr hA h8 b1
      rcases hrec (by omega) G1 H1 (i + 1) (nq B L q) (40 :: s) cd (o + 1) nt cmp cond 40 st b3 hM1 (show rk 40 < 5 by decide) (by rw [List.length_cons]; omega) (by omega) (by omega) (by omega) hnt (by decide) (by omega) with ⟨G2, H2, i2, q2, x1, ⟨t, cd', f, last2, y1, y2, y3, y4, y5, y6, y7, y8, y9, y10, y11⟩, x3⟩ | ⟨H2, k, x, x1, x2, x3, x4⟩
      · dsimp only
        rw [x1, Option.bind_some, if_neg (n10 H2)]
        have hA2 := y4.1
        have hi2 := (atC_hd hA2).1
        have hq2L := hA2.2.2.1
        obtain ⟨n1, n2⟩ := need_at (a := 41) y6.1 (by decide)
        have t41 := mLi (a := 41) (b := 41) (by decide +kernel) B L q2
        by_cases c41 : kC B L q2 = 41
        · left
          obtain ⟨H3, r1, r2, r3⟩ := n1 (t41.2 c41)
          have hM3 := MS_Mx r3 r2 y6
          have hm : f_LawReader_mayFollow G2 (kC B L q2) = some 1 := by
            rw [mayF y4.2.2.2.1.2.1 y4.2.2.2.1.2.2.2.1 y4.2.2.2.1.2.2.2.2, if_pos (by omega)]
          obtain ⟨G3, g1, g2, g3⟩ := close_C hc y4 (fun a ha => by have := y7 a ha; omega) c41 (by omega)
          rw [show o + 1 - 1 = o by omega, y8] at g3
          have hR3 : Rch G2 i2 0 G3 (i2 + 1) 0 := Rch_opt hA2 y4.2.1 hm (by rw [c41]; exact g1)
          have v51 : gi H3 81 51 = ((d + 1 : Nat) : Int) := hM3.2.1
          have hM4 : MS (si H3 81 51 (((d + 1 : Nat) : Int) - 1)) B L (nq B L q2) d (st ++ f) := ⟨atM_si (by decide) hM3.1, by rw [gi_si, if_pos ⟨rfl, rfl⟩, wr_of (by omega) (by omega)]; omega, by rw [gi_si, if_neg (by omega)]; exact hM3.2.2.1, fun j hj => by rw [gi_ne (by decide), gi_ne (by decide)]; exact hM3.2.2.2.1 j hj, by rw [gi_si, if_neg (by omega)]; exact hM3.2.2.2.2⟩
          refine ⟨G3, si H3 81 51 (((d + 1 : Nat) : Int) - 1), i2 + 1, nq B L q2, ?_, ⟨[], cd ++ clsF f, f, 41, by omega, (hR1.trans (by omega) y2).trans (by omega) hR3, b2.trans (y3.trans g2), g3, hH1.trans (y5.trans ((FH_Mx r2).trans FH_51)), hM4, fun _ w => (by cases w), ?_, y9, fun S hS => y10 S (by omega), by omega⟩, trivial⟩
          · rw [r1, Option.bind_some, if_neg (n10 H3), v51]
            rfl
          · rw [show flush [] = [] from rfl, List.append_nil]
        · right
          rw [n2 (fun w => c41 (t41.1 w))]
          have hm : f_LawReader_mayFollow G2 (kC B L q2) = some 0 := by
            rw [mayF y4.2.2.2.1.2.1 y4.2.2.2.1.2.2.2.1 y4.2.2.2.1.2.2.2.2, if_neg]
            obtain ⟨p1, p2, p3, p4⟩ := x3
            omega
          have hB := Bd_stop hc (by omega) y4 hm (Or.inl (by omega))
          exact ⟨bad H2 1 q2, 1, q2, rfl, (BadH_bad rfl (by omega)).of (hH1.trans y5), by omega, (hB.of y2 y1 y3).of hR1 (by omega) b2⟩
      · right
        dsimp only
        rw [x1]
        exact ⟨H2, k, x, rfl, x2.of hH1, x3, x4.of hR1 (by omega) b2⟩
  · rw [if_neg (fun y => c40 (t40.1 y))]
    by_cases z : kC B L q = 2 ∨ (100 ≤ kC B L q ∧ kC B L q ≤ 106)
    · left
      have e : (if mC 1 B L q = 2 then f_Model_unit_L78 rec H else if mC 1 B L q = 3 then f_Model_unit_L78 rec H else if 201 ≤ mC 1 B L q then f_Model_unit_L78 rec H else (f_Model_bad H 1).bind fun q1 => some (q1.1, q1.2)) = f_Model_unit_L78 rec H := by
        by_cases z1 : kC B L q = 2
        · rw [if_pos (t2.2 z1)]
        · rw [if_neg (fun y => z1 (t2.1 y))]
          by_cases z2 : kC B L q = 105
          · rw [if_pos (t3.2 z2)]
          · rw [if_neg (fun y => z2 (t3.1 y)), if_pos (t201.1.2 (by omega))]
      rw [e]
      exact l78 z
    · right
      have k1 : ¬ (201 ≤ mC 1 B L q) := fun y => z (by have := t201.1.1 y; omega)
      rw [if_neg (fun y => z (Or.inl (t2.1 y))), if_neg (fun y => z (Or.inr (by have := t3.1 y; omega))), if_neg k1, bad_at hMS.1]
      refine ⟨bad H 1 q, 1, q, rfl, BadH_bad rfl (by omega), by omega, ?_⟩
      exact Bd_opr hc hA h8 (opr_1 hLS (fun y => z (Or.inl y)) (fun y => z (Or.inr y.1)) (fun y => c40 y.1) hneg) (FL_flt (by decide)) (SB_flt hc hLS.2.2.1) (flt_8 rfl) (flt_9 (by omega)) (by decide)
