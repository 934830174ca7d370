/-! printed by wip/whole/gen.py out of the listing of the bytecode -/
abbrev M_Model_agreeing : MI := (⟨"InquestHallModel", "agreeing", "(II)I"⟩, prog_14_method_92_code, 5, (some .int))
theorem cw_Model_agreeing : Cond.code M_Model_agreeing.1 M_Model_agreeing.2.1 M_Model_agreeing.2.2.1 M_Model_agreeing.2.2.2 ∈ TS := mTS (List.mem_of_getElem? (i := 1964) (by decide +kernel)) (by decide +kernel)
theorem lk_Model_543 : Cond.methodLink "InquestHallModel" 543 M_Model_agrees.1 ∈ TS := mTS (List.mem_of_getElem? (i := 1965) (by decide +kernel)) (by decide +kernel)
theorem mok_Model_agrees : MOK M_Model_agrees 2 := ⟨mTS (List.mem_of_getElem? (i := 1967) (by decide +kernel)) (by decide +kernel), mTS (List.mem_of_getElem? (i := 117) (by decide +kernel)) (by decide +kernel), mTS (List.mem_of_getElem? (i := 139) (by decide +kernel)) (by decide +kernel), cw_Model_agrees, ⟨by decide, by decide, by decide +kernel⟩, by decide +kernel, by decide⟩
def tb_Model_agreeing : List (Nat × Instr × Nat) := [(0, .iconst 0, 1), (1, .istore_n 3, 1), (2, .iconst 0, 1), (3, .istore 4, 2), (5, .iload 4, 2), (7, .aload_n 0, 1), (8, .getfield 31, 3), (11, .iload_n 1, 1), (12, .iaload, 1), (13, .if_icmp .ge 32, 3), (16, .iload_n 3, 1), (17, .aload_n 0, 1), (18, .bipush 24, 2), (20, .iload_n 1, 1), (21, .imul, 1), (22, .iload 4, 2), (24, .iadd, 1), (25, .iload_n 2, 1), (26, .invokevirtual 543, 3), (29, .ifCond .eq 7, 3), (32, .iconst 1, 1), (33, .goto 4, 3), (36, .iconst 0, 1), (37, .iadd, 1), (38, .istore_n 3, 1), (39, .iinc 4 1, 3), (42, .goto (-37), 3), (45, .iload_n 3, 1), (46, .ireturn, 1)]
theorem D_Model_agreeing (i : Nat) {pc len : Nat} {ins : Instr} (hi : tb_Model_agreeing[i]? = some (pc, ins, len)) : decode M_Model_agreeing.2.1 pc = .ok (ins, len) := dec_of (by decide +kernel) i hi
def f_Model_agreeing_L37 (G : GS) (k5 : Int → Int → Int → Int → Option (Int)) (x1 : Int) (x2 : Int) (x4 : Int) (s0 : Int) (s1 : Int) : Option (Int) :=
  k5 x1 x2 (wr (s1 + s0)) (wr (x4 + 1))
theorem s_Model_agreeing_L37 {X : XT} {G : GS} {r : Int} {k5 : Int → Int → Int → Int → Option (Int)} (hk5 : ∀ {x1 : Int} {x2 : Int} {x3 : Int} {x4 : Int} , wr x1 = x1 → wr x2 = x2 → wr x3 = x3 → wr x4 = x4 → k5 x1 x2 x3 x4 = some r → J X true 7 0 0 M_Model_agreeing (Ri r G) NC 0 0 5 [(0, rf X 81), (1, vi x1), (2, vi x2), (3, vi x3), (4, vi x4)] [] G) : ∀ {x1 : Int} {x2 : Int} {x4 : Int} {s0 : Int} {s1 : Int}, wr x1 = x1 → wr x2 = x2 → wr x4 = x4 → wr s0 = s0 → wr s1 = s1 → f_Model_agreeing_L37 G k5 x1 x2 x4 s0 s1 = some r → J X true 7 0 0 M_Model_agreeing (Ri r G) NC 0 0 37 [(0, rf X 81), (1, vi x1), (2, vi x2), (4, vi x4)] [vi s0, vi s1] G := by
  intro x1 x2 x4 s0 s1 hx1 hx2 hx4 hs0 hs1 h
  unfold f_Model_agreeing_L37 at h
  refine j_iadd (D_Model_agreeing 23 rfl) ?_
  refine j_istoren (L' := [(3, vi (wr (s1 + s0))), (0, rf X 81), (1, vi x1), (2, vi x2), (4, vi x4)]) (D_Model_agreeing 24 rfl) rfl (rfl) (by decide) rfl ?_
  refine j_iinc (k := 4) (L' := [(4, vi (wr (x4 + 1))), (3, vi (wr (s1 + s0))), (0, rf X 81), (1, vi x1), (2, vi x2)]) (D_Model_agreeing 25 rfl) rfl rfl (by decide) rfl ?_
  refine j_goto (tgt := 5) (D_Model_agreeing 26 rfl) rfl ?_
  refine j_loc [2, 3, 4, 1, 0] rfl ?_
  exact hk5 (hx1) (hx2) (wr_wr _) (wr_wr _) h
def f_Model_agreeing_L5 (G : GS) : Nat → Int → Int → Int → Int → Option (Int)
  | 0, _, _, _, _ => none
  | n + 1, x1, x2, x3, x4 =>
    gd (0 ≤ x1 ∧ x1 < 32) <|
    if gi G 89 x1.toNat ≤ x4 then
      some x3
    else
      (f_Model_agrees G (wr ((24 * x1) + x4)) x2).bind fun q1 =>
      if q1 = 0 then
        f_Model_agreeing_L37 G (f_Model_agreeing_L5 G n) x1 x2 x4 0 x3
      else
        f_Model_agreeing_L37 G (f_Model_agreeing_L5 G n) x1 x2 x4 1 x3
theorem s_Model_agreeing_L5 {X : XT} {G : GS} {r : Int} : ∀ (n : Nat) {x1 : Int} {x2 : Int} {x3 : Int} {x4 : Int}, wr x1 = x1 → wr x2 = x2 → wr x3 = x3 → wr x4 = x4 → f_Model_agreeing_L5 G n x1 x2 x3 x4 = some r → J X true 7 0 0 M_Model_agreeing (Ri r G) NC 0 0 5 [(0, rf X 81), (1, vi x1), (2, vi x2), (3, vi x3), (4, vi x4)] [] G := by
  intro n
  induction n with
  | zero =>
    intro x1 x2 x3 x4 hx1 hx2 hx3 hx4 h
    exact none_some h
  | succ n ih =>
    intro x1 x2 x3 x4 hx1 hx2 hx3 hx4 h
    rw [f_Model_agreeing_L5] at h
    refine j_iload (k := 4) (D_Model_agreeing 4 rfl) rfl ?_
    refine j_aloadn (k := 0) (D_Model_agreeing 5 rfl) rfl rfl ?_
    refine j_getR rfl fa_Model_31 kd_81 lc_81 (by decide) rfl fx_81_9 (by decide) (D_Model_agreeing 6 rfl) ?_
    refine j_iloadn (k := 1) (D_Model_agreeing 7 rfl) rfl rfl ?_
    have g1 := gd_c h
    replace h := gd_s h
    refine j_iald (NI := 32) (D_Model_agreeing 8 rfl) kd_89 lc_89 (hx1) rfl g1.1 g1.2 ?_
    refine j_ic_ge (tgt := 45) (D_Model_agreeing 9 rfl) rfl (hx4) (wr_gi _ _ _) (fun c1 => ?_) (fun c1 => ?_)
    · replace h := ite_t h c1
      refine j_iloadn (k := 3) (D_Model_agreeing 27 rfl) rfl rfl ?_
      exact j_iret (D_Model_agreeing 28 rfl) rfl (hx3) rfl rfl (leafIo h (wr_n (hx3)))
    · replace h := ite_f h c1
      refine j_iloadn (k := 3) (D_Model_agreeing 10 rfl) rfl rfl ?_
      refine j_aloadn (k := 0) (D_Model_agreeing 11 rfl) rfl rfl ?_
      refine j_bipush (v := 24) (D_Model_agreeing 12 rfl) rfl ?_
      refine j_iloadn (k := 1) (D_Model_agreeing 13 rfl) rfl rfl ?_
      refine j_imul (D_Model_agreeing 14 rfl) ?_
      refine j_iload (k := 4) (D_Model_agreeing 15 rfl) rfl ?_
      refine j_iadd (D_Model_agreeing 16 rfl) ?_
      refine j_iloadn (k := 2) (D_Model_agreeing 17 rfl) rfl rfl ?_
      refine j_top1 (rfl) ?_
      obtain ⟨q1, e1, h⟩ := Option.bind_eq_some_iff.mp h
      refine j_cVz (c_Model_agrees (wr_wr _) (hx2) e1) rfl lk_Model_543 mok_Model_agrees kd_81 lc_81 rfl (by decide) rfl rfl (Nat.le_of_ble_eq_true rfl) (D_Model_agreeing 18 rfl) (fun w1 bw1 => ?_)
      refine j_if_eq (tgt := 36) (D_Model_agreeing 19 rfl) rfl (w1) (fun c2 => ?_) (fun c2 => ?_)
      · replace h := ite_t h c2
        refine j_iconst (v := 0) (D_Model_agreeing 22 rfl) rfl ?_
        refine j_loc [0, 1, 2, 4] rfl ?_
        exact s_Model_agreeing_L37 ih (hx1) (hx2) (hx4) (wr_lit rfl) (hx3) h
      · replace h := ite_f h c2
        refine j_iconst (v := 1) (D_Model_agreeing 20 rfl) rfl ?_
        refine j_goto (tgt := 37) (D_Model_agreeing 21 rfl) rfl ?_
        refine j_loc [0, 1, 2, 4] rfl ?_
        exact s_Model_agreeing_L37 ih (hx1) (hx2) (hx4) (wr_lit rfl) (hx3) h
def f_Model_agreeing (G : GS) (a1 : Int) (a2 : Int) : Option (Int) :=
  f_Model_agreeing_L5 G FU a1 a2 0 0
theorem c_Model_agreeing {X : XT} {G : GS} {a1 : Int} {a2 : Int} {r : Int} (ha1 : wr a1 = a1) (ha2 : wr a2 = a2) (h : f_Model_agreeing G a1 a2 = some r) : Call X true 7 0 0 M_Model_agreeing [rf X 81, vi a1, vi a2] NC G (Ri r G) := by
  refine Call_of_J cw_Model_agreeing (by decide +kernel) (Nat.le_of_ble_eq_true rfl) ?_
  unfold f_Model_agreeing at h
  show J X true 7 0 0 M_Model_agreeing (Ri r G) NC 0 0 0 [(0, rf X 81), (1, vi a1), (2, vi a2)] [] G
  refine j_iconst (v := 0) (D_Model_agreeing 0 rfl) rfl ?_
  refine j_istoren (L' := [(3, vi 0), (0, rf X 81), (1, vi a1), (2, vi a2)]) (D_Model_agreeing 1 rfl) rfl (wr_lit rfl) (by decide) rfl ?_
  refine j_iconst (v := 0) (D_Model_agreeing 2 rfl) rfl ?_
  refine j_istore (L' := [(4, vi 0), (3, vi 0), (0, rf X 81), (1, vi a1), (2, vi a2)]) (D_Model_agreeing 3 rfl) (wr_lit rfl) (by decide) rfl ?_
  refine j_loc [2, 3, 4, 1, 0] rfl ?_
  exact s_Model_agreeing_L5 FU (ha1) (ha2) (wr_lit rfl) (wr_lit rfl) h
abbrev M_Model_proves : MI := (⟨"InquestHallModel", "proves", "(I)V"⟩, prog_14_method_93_code, 4, none)
theorem cw_Model_proves : Cond.code M_Model_proves.1 M_Model_proves.2.1 M_Model_proves.2.2.1 M_Model_proves.2.2.2 ∈ TS := mTS (List.mem_of_getElem? (i := 1960) (by decide +kernel)) (by decide +kernel)
theorem fa_Model_546 : FA "InquestHallModel" 546 12 81 false .int := ⟨_, _, _, _, ok_Model, by decide, mTS (List.mem_of_getElem? (i := 1382) (by decide +kernel)) (by decide +kernel), rfl, rfl⟩
theorem lk_Model_549 : Cond.methodLink "InquestHallModel" 549 M_Model_agreeing.1 ∈ TS := mTS (List.mem_of_getElem? (i := 1961) (by decide +kernel)) (by decide +kernel)
theorem mok_Model_agreeing : MOK M_Model_agreeing 2 := ⟨mTS (List.mem_of_getElem? (i := 1963) (by decide +kernel)) (by decide +kernel), mTS (List.mem_of_getElem? (i := 116) (by decide +kernel)) (by decide +kernel), mTS (List.mem_of_getElem? (i := 139) (by decide +kernel)) (by decide +kernel), cw_Model_agreeing, ⟨by decide, by decide, by decide +kernel⟩, by decide +kernel, by decide⟩
theorem fa_Model_552 : FA "InquestHallModel" 552 12 79 false .int := ⟨_, _, _, _, ok_Model, by decide, mTS (List.mem_of_getElem? (i := 1380) (by decide +kernel)) (by decide +kernel), rfl, rfl⟩
theorem fa_Model_555 : FA "InquestHallModel" 555 12 82 false .int := ⟨_, _, _, _, ok_Model, by decide, mTS (List.mem_of_getElem? (i := 1383) (by decide +kernel)) (by decide +kernel), rfl, rfl⟩
theorem fa_Model_558 : FA "InquestHallModel" 558 12 80 false .int := ⟨_, _, _, _, ok_Model, by decide, mTS (List.mem_of_getElem? (i := 1381) (by decide +kernel)) (by decide +kernel), rfl, rfl⟩
def tb_Model_proves : List (Nat × Instr × Nat) := [(0, .aload_n 0, 1), (1, .iconst (-1), 1), (2, .putfield 546, 3), (5, .iconst 0, 1), (6, .istore_n 2, 1), (7, .iload_n 2, 1), (8, .sipush 29999, 3), (11, .if_icmp .gt 65, 3), (14, .aload_n 0, 1), (15, .iload_n 1, 1), (16, .iload_n 2, 1), (17, .invokevirtual 549, 3), (20, .istore_n 3, 1), (21, .iload_n 3, 1), (22, .aload_n 0, 1), (23, .getfield 546, 3), (26, .if_icmp .ge 6, 3), (29, .goto 41, 3), (32, .iload_n 3, 1), (33, .aload_n 0, 1), (34, .getfield 546, 3), (37, .if_icmp .le 18, 3), (40, .aload_n 0, 1), (41, .iload_n 3, 1), (42, .putfield 546, 3), (45, .aload_n 0, 1), (46, .iload_n 2, 1), (47, .putfield 552, 3), (50, .aload_n 0, 1), (51, .iconst 0, 1), (52, .putfield 555, 3), (55, .aload_n 0, 1), (56, .iload_n 2, 1), (57, .putfield 558, 3), (60, .aload_n 0, 1), (61, .dup, 1), (62, .getfield 555, 3), (65, .iconst 1, 1), (66, .iadd, 1), (67, .putfield 555, 3), (70, .iinc 2 1, 3), (73, .goto (-66), 3), (76, .return_, 1)]
theorem D_Model_proves (i : Nat) {pc len : Nat} {ins : Instr} (hi : tb_Model_proves[i]? = some (pc, ins, len)) : decode M_Model_proves.2.1 pc = .ok (ins, len) := dec_of (by decide +kernel) i hi
def f_Model_proves_L70 (k7 : GS → Int → Int → Option (GS)) (G : GS) (x1 : Int) (x2 : Int) : Option (GS) :=
  k7 G x1 (wr (x2 + 1))
theorem s_Model_proves_L70 {X : XT} {r : GS} {k7 : GS → Int → Int → Option (GS)} (hk7 : ∀ {G : GS} {x1 : Int} {x2 : Int} , wr x1 = x1 → wr x2 = x2 → k7 G x1 x2 = some r → J X true 8 0 0 M_Model_proves (Rv r) NC 0 0 7 [(0, rf X 81), (1, vi x1), (2, vi x2)] [] G) : ∀ {G : GS} {x1 : Int} {x2 : Int}, wr x1 = x1 → wr x2 = x2 → f_Model_proves_L70 k7 G x1 x2 = some r → J X true 8 0 0 M_Model_proves (Rv r) NC 0 0 70 [(0, rf X 81), (1, vi x1), (2, vi x2)] [] G := by
  intro G x1 x2 hx1 hx2 h
  unfold f_Model_proves_L70 at h
  refine j_iinc (k := 2) (L' := [(2, vi (wr (x2 + 1))), (0, rf X 81), (1, vi x1)]) (D_Model_proves 40 rfl) rfl rfl (by decide) rfl ?_
  refine j_goto (tgt := 7) (D_Model_proves 41 rfl) rfl ?_
  refine j_loc [1, 2, 0] rfl ?_
  exact hk7 (hx1) (wr_wr _) h
def f_Model_proves_L55 (k7 : GS → Int → Int → Option (GS)) (G : GS) (x1 : Int) (x2 : Int) : Option (GS) :=
  wG (si G 81 80 x2) fun G1 =>
  wG (si G1 81 82 ((gi G1 81 82) + 1)) fun G2 =>
  f_Model_proves_L70 k7 G2 x1 x2
theorem s_Model_proves_L55 {X : XT} {r : GS} {k7 : GS → Int → Int → Option (GS)} (hk7 : ∀ {G : GS} {x1 : Int} {x2 : Int} , wr x1 = x1 → wr x2 = x2 → k7 G x1 x2 = some r → J X true 8 0 0 M_Model_proves (Rv r) NC 0 0 7 [(0, rf X 81), (1, vi x1), (2, vi x2)] [] G) : ∀ {G : GS} {x1 : Int} {x2 : Int}, wr x1 = x1 → wr x2 = x2 → f_Model_proves_L55 k7 G x1 x2 = some r → J X true 8 0 0 M_Model_proves (Rv r) NC 0 0 55 [(0, rf X 81), (1, vi x1), (2, vi x2)] [] G := by
  intro G x1 x2 hx1 hx2 h
  unfold f_Model_proves_L55 at h
  refine j_aloadn (k := 0) (D_Model_proves 31 rfl) rfl rfl ?_
  refine j_iloadn (k := 2) (D_Model_proves 32 rfl) rfl rfl ?_
  refine j_putI rfl fa_Model_558 kd_81 lc_81 (by decide) rfl (D_Model_proves 33 rfl) ?_
  refine j_gen (fun G1 e1 => ?_)
  replace h := wG_at h e1
  refine j_aloadn (k := 0) (D_Model_proves 34 rfl) rfl rfl ?_
  refine j_dup (D_Model_proves 35 rfl) rfl ?_
  refine j_getI rfl fa_Model_555 kd_81 lc_81 (by decide) rfl (D_Model_proves 36 rfl) ?_
  refine j_iconst (v := 1) (D_Model_proves 37 rfl) rfl ?_
  refine j_iadd (D_Model_proves 38 rfl) ?_
  refine j_putI rfl fa_Model_555 kd_81 lc_81 (by decide) rfl (D_Model_proves 39 rfl) ?_
  refine j_gen (fun G2 e2 => ?_)
  replace h := wG_at h e2
  refine j_loc [0, 1, 2] rfl ?_
  exact s_Model_proves_L70 hk7 (hx1) (hx2) h
def f_Model_proves_L7 : Nat → GS → Int → Int → Option (GS)
  | 0, _, _, _ => none
  | n + 1, G, x1, x2 =>
    if 29999 < x2 then
      some G
    else
      (f_Model_agreeing G x1 x2).bind fun q1 =>
      if gi G 81 81 ≤ q1 then
        if q1 ≤ gi G 81 81 then
          f_Model_proves_L55 (f_Model_proves_L7 n) G x1 x2
        else
          wG (si G 81 81 q1) fun G1 =>
          wG (si G1 81 79 x2) fun G2 =>
          wG (si G2 81 82 0) fun G3 =>
          f_Model_proves_L55 (f_Model_proves_L7 n) G3 x1 x2
      else
        f_Model_proves_L70 (f_Model_proves_L7 n) G x1 x2
theorem s_Model_proves_L7 {X : XT} {r : GS} : ∀ (n : Nat) {G : GS} {x1 : Int} {x2 : Int}, wr x1 = x1 → wr x2 = x2 → f_Model_proves_L7 n G x1 x2 = some r → J X true 8 0 0 M_Model_proves (Rv r) NC 0 0 7 [(0, rf X 81), (1, vi x1), (2, vi x2)] [] G := by
  intro n
  induction n with
  | zero =>
    intro G x1 x2 hx1 hx2 h
    exact none_some h
  | succ n ih =>
    intro G x1 x2 hx1 hx2 h
    rw [f_Model_proves_L7] at h
    refine j_iloadn (k := 2) (D_Model_proves 5 rfl) rfl rfl ?_
    refine j_sipush (v := 29999) (D_Model_proves 6 rfl) rfl ?_
    refine j_ic_gt (tgt := 76) (D_Model_proves 7 rfl) rfl (hx2) (wr_lit rfl) (fun c1 => ?_) (fun c1 => ?_)
    · replace h := ite_t h c1
      exact j_vret (D_Model_proves 42 rfl) rfl rfl rfl (leafV h)
    · replace h := ite_f h c1
      refine j_aloadn (k := 0) (D_Model_proves 8 rfl) rfl rfl ?_
      refine j_iloadn (k := 1) (D_Model_proves 9 rfl) rfl rfl ?_
      refine j_iloadn (k := 2) (D_Model_proves 10 rfl) rfl rfl ?_
      obtain ⟨q1, e1, h⟩ := Option.bind_eq_some_iff.mp h
      refine j_cVi (c_Model_agreeing (hx1) (hx2) e1) rfl lk_Model_549 mok_Model_agreeing kd_81 lc_81 rfl (by decide) rfl rfl (Nat.le_of_ble_eq_true rfl) (D_Model_proves 11 rfl) (fun w1 => ?_)
      refine j_istoren (L' := [(3, vi q1), (0, rf X 81), (1, vi x1), (2, vi x2)]) (D_Model_proves 12 rfl) rfl (w1) (by decide) rfl ?_
      refine j_iloadn (k := 0) (D_Model_proves 13 rfl) rfl rfl ?_
      refine j_aloadn (k := 1) (D_Model_proves 14 rfl) rfl rfl ?_
      refine j_getI rfl fa_Model_546 kd_81 lc_81 (by decide) rfl (D_Model_proves 15 rfl) ?_
      refine j_ic_ge (tgt := 32) (D_Model_proves 16 rfl) rfl (w1) (wr_gi _ _ _) (fun c2 => ?_) (fun c2 => ?_)
      · replace h := ite_t h c2
        refine j_iloadn (k := 0) (D_Model_proves 18 rfl) rfl rfl ?_
        refine j_aloadn (k := 1) (D_Model_proves 19 rfl) rfl rfl ?_
        refine j_getI rfl fa_Model_546 kd_81 lc_81 (by decide) rfl (D_Model_proves 20 rfl) ?_
        refine j_ic_le (tgt := 55) (D_Model_proves 21 rfl) rfl (w1) (wr_gi _ _ _) (fun c3 => ?_) (fun c3 => ?_)
        · replace h := ite_t h c3
          refine j_loc [1, 2, 3] rfl ?_
          exact s_Model_proves_L55 ih (hx1) (hx2) h
        · replace h := ite_f h c3
          refine j_aloadn (k := 1) (D_Model_proves 22 rfl) rfl rfl ?_
          refine j_iloadn (k := 0) (D_Model_proves 23 rfl) rfl rfl ?_
          refine j_putI rfl fa_Model_546 kd_81 lc_81 (by decide) rfl (D_Model_proves 24 rfl) ?_
          refine j_gen (fun G1 e2 => ?_)
          replace h := wG_at h e2
          refine j_aloadn (k := 1) (D_Model_proves 25 rfl) rfl rfl ?_
          refine j_iloadn (k := 3) (D_Model_proves 26 rfl) rfl rfl ?_
          refine j_putI rfl fa_Model_552 kd_81 lc_81 (by decide) rfl (D_Model_proves 27 rfl) ?_
          refine j_gen (fun G2 e3 => ?_)
          replace h := wG_at h e3
          refine j_aloadn (k := 1) (D_Model_proves 28 rfl) rfl rfl ?_
          refine j_iconst (v := 0) (D_Model_proves 29 rfl) rfl ?_
          refine j_putI rfl fa_Model_555 kd_81 lc_81 (by decide) rfl (D_Model_proves 30 rfl) ?_
          refine j_gen (fun G3 e4 => ?_)
          replace h := wG_at h e4
          refine j_loc [1, 2, 3] rfl ?_
          exact s_Model_proves_L55 ih (hx1) (hx2) h
      · replace h := ite_f h c2
        refine j_goto (tgt := 70) (D_Model_proves 17 rfl) rfl ?_
        refine j_loc [1, 2, 3] rfl ?_
        exact s_Model_proves_L70 ih (hx1) (hx2) h
def f_Model_proves (G : GS) (a1 : Int) : Option (GS) :=
  wG (si G 81 81 (-1)) fun G1 =>
  f_Model_proves_L7 FU G1 a1 0
theorem c_Model_proves {X : XT} {G : GS} {a1 : Int} {r : GS} (ha1 : wr a1 = a1) (h : f_Model_proves G a1 = some r) : Call X true 8 0 0 M_Model_proves [rf X 81, vi a1] NC G (Rv r) := by
  refine Call_of_J cw_Model_proves (by decide +kernel) (Nat.le_of_ble_eq_true rfl) ?_
  unfold f_Model_proves at h
  show J X true 8 0 0 M_Model_proves (Rv r) NC 0 0 0 [(0, rf X 81), (1, vi a1)] [] G
  refine j_aloadn (k := 0) (D_Model_proves 0 rfl) rfl rfl ?_
  refine j_iconst (v := (-1)) (D_Model_proves 1 rfl) rfl ?_
  refine j_putI rfl fa_Model_546 kd_81 lc_81 (by decide) rfl (D_Model_proves 2 rfl) ?_
  refine j_gen (fun G1 e1 => ?_)
  replace h := wG_at h e1
  refine j_iconst (v := 0) (D_Model_proves 3 rfl) rfl ?_
  refine j_istoren (L' := [(2, vi 0), (0, rf X 81), (1, vi a1)]) (D_Model_proves 4 rfl) rfl (wr_lit rfl) (by decide) rfl ?_
  refine j_loc [1, 2, 0] rfl ?_
  exact s_Model_proves_L7 FU (ha1) (wr_lit rfl) h
abbrev M_Model_isSure : MI := (⟨"InquestHallModel", "isSure", "()Z"⟩, prog_14_method_94_code, 1, (some .boolean))
theorem cw_Model_isSure : Cond.code M_Model_isSure.1 M_Model_isSure.2.1 M_Model_isSure.2.2.1 M_Model_isSure.2.2.2 ∈ TS := mTS (List.mem_of_getElem? (i := 1972) (by decide +kernel)) (by decide +kernel)
def tb_Model_isSure : List (Nat × Instr × Nat) := [(0, .aload_n 0, 1), (1, .getfield 546, 3), (4, .ifCond .le 25, 3), (7, .aload_n 0, 1), (8, .getfield 558, 3), (11, .aload_n 0, 1), (12, .getfield 552, 3), (15, .isub, 1), (16, .iconst 1, 1), (17, .iadd, 1), (18, .aload_n 0, 1), (19, .getfield 555, 3), (22, .if_icmp .ne 7, 3), (25, .iconst 1, 1), (26, .goto 4, 3), (29, .iconst 0, 1), (30, .ireturn, 1)]
theorem D_Model_isSure (i : Nat) {pc len : Nat} {ins : Instr} (hi : tb_Model_isSure[i]? = some (pc, ins, len)) : decode M_Model_isSure.2.1 pc = .ok (ins, len) := dec_of (by decide +kernel) i hi
def f_Model_isSure (G : GS) : Option (Int) :=
  if gi G 81 81 ≤ 0 then
    some 0
  else
    if wr (((gi G 81 80) - (gi G 81 79)) + 1) = gi G 81 82 then
      some 1
    else
      some 0
theorem c_Model_isSure {X : XT} {G : GS} {r : Int} (h : f_Model_isSure G = some r) : Call X true 6 0 0 M_Model_isSure [rf X 81] NC G (Rz r G) := by
  refine Call_of_J cw_Model_isSure (by decide +kernel) (Nat.le_of_ble_eq_true rfl) ?_
  unfold f_Model_isSure at h
  show J X true 6 0 0 M_Model_isSure (Rz r G) NC 0 0 0 [(0, rf X 81)] [] G
  refine j_aloadn (k := 0) (D_Model_isSure 0 rfl) rfl rfl ?_
  refine j_getI rfl fa_Model_546 kd_81 lc_81 (by decide) rfl (D_Model_isSure 1 rfl) ?_
  refine j_if_le (tgt := 29) (D_Model_isSure 2 rfl) rfl (wr_gi _ _ _) (fun c1 => ?_) (fun c1 => ?_)
  · replace h := ite_t h c1
    refine j_iconst (v := 0) (D_Model_isSure 15 rfl) rfl ?_
    exact j_zret (D_Model_isSure 16 rfl) rfl (wr_lit rfl) (nz_01 (by decide)) rfl rfl (leafZo h (wr_n (wr_lit rfl)) (by decide))
  · replace h := ite_f h c1
    refine j_aloadn (k := 0) (D_Model_isSure 3 rfl) rfl rfl ?_
    refine j_getI rfl fa_Model_558 kd_81 lc_81 (by decide) rfl (D_Model_isSure 4 rfl) ?_
    refine j_aloadn (k := 0) (D_Model_isSure 5 rfl) rfl rfl ?_
    refine j_getI rfl fa_Model_552 kd_81 lc_81 (by decide) rfl (D_Model_isSure 6 rfl) ?_
    refine j_isub (D_Model_isSure 7 rfl) ?_
    refine j_iconst (v := 1) (D_Model_isSure 8 rfl) rfl ?_
    refine j_iadd (D_Model_isSure 9 rfl) ?_
    refine j_aloadn (k := 0) (D_Model_isSure 10 rfl) rfl rfl ?_
    refine j_getI rfl fa_Model_555 kd_81 lc_81 (by decide) rfl (D_Model_isSure 11 rfl) ?_
    refine j_ic_ne (tgt := 29) (D_Model_isSure 12 rfl) rfl (rfl) (wr_gi _ _ _) (fun c2 => ?_) (fun c2 => ?_)
    · replace h := ite_f h c2
      refine j_iconst (v := 0) (D_Model_isSure 15 rfl) rfl ?_
      exact j_zret (D_Model_isSure 16 rfl) rfl (wr_lit rfl) (nz_01 (by decide)) rfl rfl (leafZo h (wr_n (wr_lit rfl)) (by decide))
    · replace h := ite_t h c2
      refine j_iconst (v := 1) (D_Model_isSure 13 rfl) rfl ?_
      refine j_goto (tgt := 30) (D_Model_isSure 14 rfl) rfl ?_
      exact j_zret (D_Model_isSure 16 rfl) rfl (wr_lit rfl) (nz_01 (by decide)) rfl rfl (leafZo h (wr_n (wr_lit rfl)) (by decide))
abbrev M_Model_proof : MI := (⟨"InquestHallModel", "proof", "(II)I"⟩, prog_14_method_95_code, 5, (some .int))
theorem cw_Model_proof : Cond.code M_Model_proof.1 M_Model_proof.2.1 M_Model_proof.2.2.1 M_Model_proof.2.2.2 ∈ TS := mTS (List.mem_of_getElem? (i := 1956) (by decide +kernel)) (by decide +kernel)
theorem lk_Model_561 : Cond.methodLink "InquestHallModel" 561 M_Model_proves.1 ∈ TS := mTS (List.mem_of_getElem? (i := 1957) (by decide +kernel)) (by decide +kernel)
theorem mok_Model_proves : MOK M_Model_proves 1 := ⟨mTS (List.mem_of_getElem? (i := 1959) (by decide +kernel)) (by decide +kernel), mTS (List.mem_of_getElem? (i := 115) (by decide +kernel)) (by decide +kernel), mTS (List.mem_of_getElem? (i := 139) (by decide +kernel)) (by decide +kernel), cw_Model_proves, ⟨by decide, by decide, by decide +kernel⟩, by decide +kernel, by decide⟩
theorem lk_Model_564 : Cond.methodLink "InquestHallModel" 564 M_Model_isSure.1 ∈ TS := mTS (List.mem_of_getElem? (i := 1969) (by decide +kernel)) (by decide +kernel)
theorem mok_Model_isSure : MOK M_Model_isSure 0 := ⟨mTS (List.mem_of_getElem? (i := 1971) (by decide +kernel)) (by decide +kernel), mTS (List.mem_of_getElem? (i := 118) (by decide +kernel)) (by decide +kernel), mTS (List.mem_of_getElem? (i := 139) (by decide +kernel)) (by decide +kernel), cw_Model_isSure, ⟨by decide, by decide, by decide +kernel⟩, by decide +kernel, by decide⟩
def tb_Model_proof : List (Nat × Instr × Nat) := [(0, .aload_n 0, 1), (1, .iload_n 1, 1), (2, .invokevirtual 198, 3), (5, .ifCond .eq 21, 3), (8, .aload_n 0, 1), (9, .getfield 31, 3), (12, .iload_n 1, 1), (13, .iaload, 1), (14, .ifCond .eq 12, 3), (17, .iload_n 2, 1), (18, .iconst 0, 1), (19, .iconst 4, 1), (20, .invokestatic 188, 3), (23, .ifCond .ne 5, 3), (26, .iconst (-1), 1), (27, .ireturn, 1), (28, .aload_n 0, 1), (29, .iload_n 1, 1), (30, .invokevirtual 561, 3), (33, .iconst 0, 1), (34, .istore_n 3, 1), (35, .iconst 0, 1), (36, .istore 4, 2), (38, .iload 4, 2), (40, .aload_n 0, 1), (41, .getfield 31, 3), (44, .iload_n 1, 1), (45, .iaload, 1), (46, .if_icmp .ge 38, 3), (49, .iload_n 3, 1), (50, .aload_n 0, 1), (51, .bipush 24, 2), (53, .iload_n 1, 1), (54, .imul, 1), (55, .iload 4, 2), (57, .iadd, 1), (58, .aload_n 0, 1), (59, .getfield 552, 3), (62, .invokevirtual 543, 3), (65, .ifCond .eq 7, 3), (68, .iconst 0, 1), (69, .goto 7, 3), (72, .iconst 1, 1), (73, .iload 4, 2), (75, .ishl, 1), (76, .ior, 1), (77, .istore_n 3, 1), (78, .iinc 4 1, 3), (81, .goto (-43), 3), (84, .iload_n 2, 1), (85, .ifCond .ne 10, 3), (88, .aload_n 0, 1), (89, .getfield 552, 3), (92, .goto 48, 3), (95, .iload_n 2, 1), (96, .iconst 1, 1), (97, .if_icmp .ne 10, 3), (100, .aload_n 0, 1), (101, .getfield 558, 3), (104, .goto 36, 3), (107, .iload_n 2, 1), (108, .iconst 2, 1), (109, .if_icmp .ne 10, 3), (112, .aload_n 0, 1), (113, .getfield 546, 3), (116, .goto 24, 3), (119, .iload_n 2, 1), (120, .iconst 3, 1), (121, .if_icmp .ne 18, 3), (124, .aload_n 0, 1), (125, .invokevirtual 564, 3), (128, .ifCond .eq 7, 3), (131, .iconst 1, 1), (132, .goto 8, 3), (135, .iconst 0, 1), (136, .goto 4, 3), (139, .iload_n 3, 1), (140, .ireturn, 1)]
theorem D_Model_proof (i : Nat) {pc len : Nat} {ins : Instr} (hi : tb_Model_proof[i]? = some (pc, ins, len)) : decode M_Model_proof.2.1 pc = .ok (ins, len) := dec_of (by decide +kernel) i hi
def f_Model_proof_L76 (k38 : GS → Int → Int → Int → Int → Option (Int × GS)) (G : GS) (x1 : Int) (x2 : Int) (x4 : Int) (s0 : Int) (s1 : Int) : Option (Int × GS) :=
  k38 G x1 x2 (bOr s1 s0) (wr (x4 + 1))
theorem s_Model_proof_L76 {X : XT} {r : Int × GS} {k38 : GS → Int → Int → Int → Int → Option (Int × GS)} (hk38 : ∀ {G : GS} {x1 : Int} {x2 : Int} {x3 : Int} {x4 : Int} , wr x1 = x1 → wr x2 = x2 → wr x3 = x3 → wr x4 = x4 → k38 G x1 x2 x3 x4 = some r → J X true 9 0 0 M_Model_proof (Ri r.1 r.2) NC 0 0 38 [(0, rf X 81), (1, vi x1), (2, vi x2), (3, vi x3), (4, vi x4)] [] G) : ∀ {G : GS} {x1 : Int} {x2 : Int} {x4 : Int} {s0 : Int} {s1 : Int}, wr x1 = x1 → wr x2 = x2 → wr x4 = x4 → wr s0 = s0 → wr s1 = s1 → f_Model_proof_L76 k38 G x1 x2 x4 s0 s1 = some r → J X true 9 0 0 M_Model_proof (Ri r.1 r.2) NC 0 0 76 [(0, rf X 81), (1, vi x1), (2, vi x2), (4, vi x4)] [vi s0, vi s1] G := by
  intro G x1 x2 x4 s0 s1 hx1 hx2 hx4 hs0 hs1 h
  unfold f_Model_proof_L76 at h
  refine j_ior (D_Model_proof 45 rfl) ?_
  refine j_istoren (L' := [(3, vi (bOr s1 s0)), (0, rf X 81), (1, vi x1), (2, vi x2), (4, vi x4)]) (D_Model_proof 46 rfl) rfl (wr_bOr _ _) (by decide) rfl ?_
  refine j_iinc (k := 4) (L' := [(4, vi (wr (x4 + 1))), (3, vi (bOr s1 s0)), (0, rf X 81), (1, vi x1), (2, vi x2)]) (D_Model_proof 47 rfl) rfl rfl (by decide) rfl ?_
  refine j_goto (tgt := 38) (D_Model_proof 48 rfl) rfl ?_
  refine j_loc [2, 3, 4, 1, 0] rfl ?_
  exact hk38 (hx1) (hx2) (wr_bOr _ _) (wr_wr _) h
def f_Model_proof_L38 : Nat → GS → Int → Int → Int → Int → Option (Int × GS)
  | 0, _, _, _, _, _ => none
  | n + 1, G, x1, x2, x3, x4 =>
    gd (0 ≤ x1 ∧ x1 < 32) <|
    if gi G 89 x1.toNat ≤ x4 then
      if x2 = 0 then
        some (gi G 81 79, G)
      else
        if x2 = 1 then
          some (gi G 81 80, G)
        else
          if x2 = 2 then
            some (gi G 81 81, G)
          else
            if x2 = 3 then
              (f_Model_isSure G).bind fun q1 =>
              if q1 = 0 then
                some (0, G)
              else
                some (1, G)
            else
              some (x3, G)
    else
      (f_Model_agrees G (wr ((24 * x1) + x4)) (gi G 81 79)).bind fun q2 =>
      if q2 = 0 then
        f_Model_proof_L76 (f_Model_proof_L38 n) G x1 x2 x4 (bShl 1 x4) x3
      else
        f_Model_proof_L76 (f_Model_proof_L38 n) G x1 x2 x4 0 x3
theorem s_Model_proof_L38 {X : XT} {r : Int × GS} : ∀ (n : Nat) {G : GS} {x1 : Int} {x2 : Int} {x3 : Int} {x4 : Int}, wr x1 = x1 → wr x2 = x2 → wr x3 = x3 → wr x4 = x4 → f_Model_proof_L38 n G x1 x2 x3 x4 = some r → J X true 9 0 0 M_Model_proof (Ri r.1 r.2) NC 0 0 38 [(0, rf X 81), (1, vi x1), (2, vi x2), (3, vi x3), (4, vi x4)] [] G := by
  intro n
  induction n with
  | zero =>
    intro G x1 x2 x3 x4 hx1 hx2 hx3 hx4 h
    exact none_some h
  | succ n ih =>
    intro G x1 x2 x3 x4 hx1 hx2 hx3 hx4 h
    rw [f_Model_proof_L38] at h
    refine j_iload (k := 4) (D_Model_proof 23 rfl) rfl ?_
    refine j_aloadn (k := 0) (D_Model_proof 24 rfl) rfl rfl ?_
    refine j_getR rfl fa_Model_31 kd_81 lc_81 (by decide) rfl fx_81_9 (by decide) (D_Model_proof 25 rfl) ?_
    refine j_iloadn (k := 1) (D_Model_proof 26 rfl) rfl rfl ?_
    have g1 := gd_c h
    replace h := gd_s h
    refine j_iald (NI := 32) (D_Model_proof 27 rfl) kd_89 lc_89 (hx1) rfl g1.1 g1.2 ?_
    refine j_ic_ge (tgt := 84) (D_Model_proof 28 rfl) rfl (hx4) (wr_gi _ _ _) (fun c1 => ?_) (fun c1 => ?_)
    · replace h := ite_t h c1
      refine j_iloadn (k := 2) (D_Model_proof 49 rfl) rfl rfl ?_
      refine j_if_ne (tgt := 95) (D_Model_proof 50 rfl) rfl (hx2) (fun c2 => ?_) (fun c2 => ?_)
      · replace h := ite_f h c2
        refine j_iloadn (k := 2) (D_Model_proof 54 rfl) rfl rfl ?_
        refine j_iconst (v := 1) (D_Model_proof 55 rfl) rfl ?_
        refine j_ic_ne (tgt := 107) (D_Model_proof 56 rfl) rfl (hx2) (wr_lit rfl) (fun c3 => ?_) (fun c3 => ?_)
        · replace h := ite_f h c3
          refine j_iloadn (k := 2) (D_Model_proof 60 rfl) rfl rfl ?_
          refine j_iconst (v := 2) (D_Model_proof 61 rfl) rfl ?_
          refine j_ic_ne (tgt := 119) (D_Model_proof 62 rfl) rfl (hx2) (wr_lit rfl) (fun c4 => ?_) (fun c4 => ?_)
          · replace h := ite_f h c4
            refine j_iloadn (k := 2) (D_Model_proof 66 rfl) rfl rfl ?_
            refine j_iconst (v := 3) (D_Model_proof 67 rfl) rfl ?_
            refine j_ic_ne (tgt := 139) (D_Model_proof 68 rfl) rfl (hx2) (wr_lit rfl) (fun c5 => ?_) (fun c5 => ?_)
            · replace h := ite_f h c5
              refine j_iloadn (k := 3) (D_Model_proof 76 rfl) rfl rfl ?_
              exact j_iret (D_Model_proof 77 rfl) rfl (hx3) rfl rfl (leafI h (wr_n (hx3)))
            · replace h := ite_t h c5
              refine j_aloadn (k := 0) (D_Model_proof 69 rfl) rfl rfl ?_
              obtain ⟨q1, e1, h⟩ := Option.bind_eq_some_iff.mp h
              refine j_cVz (c_Model_isSure e1) rfl lk_Model_564 mok_Model_isSure kd_81 lc_81 rfl (by decide) rfl rfl (Nat.le_of_ble_eq_true rfl) (D_Model_proof 70 rfl) (fun w1 bw1 => ?_)
              refine j_if_eq (tgt := 135) (D_Model_proof 71 rfl) rfl (w1) (fun c6 => ?_) (fun c6 => ?_)
              · replace h := ite_t h c6
                refine j_iconst (v := 0) (D_Model_proof 74 rfl) rfl ?_
                refine j_goto (tgt := 140) (D_Model_proof 75 rfl) rfl ?_
                exact j_iret (D_Model_proof 77 rfl) rfl (wr_lit rfl) rfl rfl (leafI h (wr_n (wr_lit rfl)))
              · replace h := ite_f h c6
                refine j_iconst (v := 1) (D_Model_proof 72 rfl) rfl ?_
                refine j_goto (tgt := 140) (D_Model_proof 73 rfl) rfl ?_
                exact j_iret (D_Model_proof 77 rfl) rfl (wr_lit rfl) rfl rfl (leafI h (wr_n (wr_lit rfl)))
          · replace h := ite_t h c4
            refine j_aloadn (k := 0) (D_Model_proof 63 rfl) rfl rfl ?_
            refine j_getI rfl fa_Model_546 kd_81 lc_81 (by decide) rfl (D_Model_proof 64 rfl) ?_
            refine j_goto (tgt := 140) (D_Model_proof 65 rfl) rfl ?_
            exact j_iret (D_Model_proof 77 rfl) rfl (wr_gi _ _ _) rfl rfl (leafI h (wr_n (wr_gi _ _ _)))
        · replace h := ite_t h c3
          refine j_aloadn (k := 0) (D_Model_proof 57 rfl) rfl rfl ?_
          refine j_getI rfl fa_Model_558 kd_81 lc_81 (by decide) rfl (D_Model_proof 58 rfl) ?_
          refine j_goto (tgt := 140) (D_Model_proof 59 rfl) rfl ?_
          exact j_iret (D_Model_proof 77 rfl) rfl (wr_gi _ _ _) rfl rfl (leafI h (wr_n (wr_gi _ _ _)))
      · replace h := ite_t h c2
        refine j_aloadn (k := 0) (D_Model_proof 51 rfl) rfl rfl ?_
        refine j_getI rfl fa_Model_552 kd_81 lc_81 (by decide) rfl (D_Model_proof 52 rfl) ?_
        refine j_goto (tgt := 140) (D_Model_proof 53 rfl) rfl ?_
        exact j_iret (D_Model_proof 77 rfl) rfl (wr_gi _ _ _) rfl rfl (leafI h (wr_n (wr_gi _ _ _)))
    · replace h := ite_f h c1
      refine j_iloadn (k := 3) (D_Model_proof 29 rfl) rfl rfl ?_
      refine j_aloadn (k := 0) (D_Model_proof 30 rfl) rfl rfl ?_
      refine j_bipush (v := 24) (D_Model_proof 31 rfl) rfl ?_
      refine j_iloadn (k := 1) (D_Model_proof 32 rfl) rfl rfl ?_
      refine j_imul (D_Model_proof 33 rfl) ?_
      refine j_iload (k := 4) (D_Model_proof 34 rfl) rfl ?_
      refine j_iadd (D_Model_proof 35 rfl) ?_
      refine j_aloadn (k := 0) (D_Model_proof 36 rfl) rfl rfl ?_
      refine j_getI rfl fa_Model_552 kd_81 lc_81 (by decide) rfl (D_Model_proof 37 rfl) ?_
      refine j_top1 (rfl) ?_
      obtain ⟨q2, e2, h⟩ := Option.bind_eq_some_iff.mp h
      refine j_cVz (c_Model_agrees (wr_wr _) (wr_gi _ _ _) e2) rfl lk_Model_543 mok_Model_agrees kd_81 lc_81 rfl (by decide) rfl rfl (Nat.le_of_ble_eq_true rfl) (D_Model_proof 38 rfl) (fun w2 bw2 => ?_)
      refine j_if_eq (tgt := 72) (D_Model_proof 39 rfl) rfl (w2) (fun c7 => ?_) (fun c7 => ?_)
      · replace h := ite_t h c7
        refine j_iconst (v := 1) (D_Model_proof 42 rfl) rfl ?_
        refine j_iload (k := 4) (D_Model_proof 43 rfl) rfl ?_
        refine j_ishl (D_Model_proof 44 rfl) ?_
        refine j_loc [0, 1, 2, 4] rfl ?_
        exact s_Model_proof_L76 ih (hx1) (hx2) (hx4) (wr_bShl _ _) (hx3) h
      · replace h := ite_f h c7
        refine j_iconst (v := 0) (D_Model_proof 40 rfl) rfl ?_
        refine j_goto (tgt := 76) (D_Model_proof 41 rfl) rfl ?_
        refine j_loc [0, 1, 2, 4] rfl ?_
        exact s_Model_proof_L76 ih (hx1) (hx2) (hx4) (wr_lit rfl) (hx3) h
def f_Model_proof (G : GS) (a1 : Int) (a2 : Int) : Option (Int × GS) :=
  (f_Model_isPerson G a1).bind fun q1 =>
  if q1 = 0 then
    some ((-1), G)
  else
    gd (0 ≤ a1 ∧ a1 < 32) <|
    if gi G 89 a1.toNat = 0 then
      some ((-1), G)
    else
      (f_Model_isIn G a2 0 4).bind fun q2 =>
      if q2 = 0 then
        some ((-1), G)
      else
        (f_Model_proves G a1).bind fun q3 =>
        f_Model_proof_L38 FU q3 a1 a2 0 0
theorem c_Model_proof {X : XT} {G : GS} {a1 : Int} {a2 : Int} {r : Int × GS} (ha1 : wr a1 = a1) (ha2 : wr a2 = a2) (h : f_Model_proof G a1 a2 = some r) : Call X true 9 0 0 M_Model_proof [rf X 81, vi a1, vi a2] NC G (Ri r.1 r.2) := by
  refine Call_of_J cw_Model_proof (by decide +kernel) (Nat.le_of_ble_eq_true rfl) ?_
  unfold f_Model_proof at h
  show J X true 9 0 0 M_Model_proof (Ri r.1 r.2) NC 0 0 0 [(0, rf X 81), (1, vi a1), (2, vi a2)] [] G
  refine j_aloadn (k := 0) (D_Model_proof 0 rfl) rfl rfl ?_
  refine j_iloadn (k := 1) (D_Model_proof 1 rfl) rfl rfl ?_
  obtain ⟨q1, e1, h⟩ := Option.bind_eq_some_iff.mp h
  refine j_cVz (c_Model_isPerson (ha1) e1) rfl lk_Model_198 mok_Model_isPerson kd_81 lc_81 rfl (by decide) rfl rfl (Nat.le_of_ble_eq_true rfl) (D_Model_proof 2 rfl) (fun w1 bw1 => ?_)
  refine j_if_eq (tgt := 26) (D_Model_proof 3 rfl) rfl (w1) (fun c1 => ?_) (fun c1 => ?_)
  · replace h := ite_t h c1
    refine j_iconst (v := (-1)) (D_Model_proof 14 rfl) rfl ?_
    exact j_iret (D_Model_proof 15 rfl) rfl (wr_lit rfl) rfl rfl (leafI h (wr_n (wr_lit rfl)))
  · replace h := ite_f h c1
    refine j_aloadn (k := 0) (D_Model_proof 4 rfl) rfl rfl ?_
    refine j_getR rfl fa_Model_31 kd_81 lc_81 (by decide) rfl fx_81_9 (by decide) (D_Model_proof 5 rfl) ?_
    refine j_iloadn (k := 1) (D_Model_proof 6 rfl) rfl rfl ?_
    have g1 := gd_c h
    replace h := gd_s h
    refine j_iald (NI := 32) (D_Model_proof 7 rfl) kd_89 lc_89 (ha1) rfl g1.1 g1.2 ?_
    refine j_if_eq (tgt := 26) (D_Model_proof 8 rfl) rfl (wr_gi _ _ _) (fun c2 => ?_) (fun c2 => ?_)
    · replace h := ite_t h c2
      refine j_iconst (v := (-1)) (D_Model_proof 14 rfl) rfl ?_
      exact j_iret (D_Model_proof 15 rfl) rfl (wr_lit rfl) rfl rfl (leafI h (wr_n (wr_lit rfl)))
    · replace h := ite_f h c2
      refine j_iloadn (k := 2) (D_Model_proof 9 rfl) rfl rfl ?_
      refine j_iconst (v := 0) (D_Model_proof 10 rfl) rfl ?_
      refine j_iconst (v := 4) (D_Model_proof 11 rfl) rfl ?_
      obtain ⟨q2, e2, h⟩ := Option.bind_eq_some_iff.mp h
      refine j_cSz (c_Model_isIn (ha2) (wr_lit rfl) (wr_lit rfl) e2) rfl lk_Model_188 sok_Model_isIn (by decide) rfl rfl (Nat.le_of_ble_eq_true rfl) (D_Model_proof 12 rfl) (fun w2 bw2 => ?_)
      refine j_if_ne (tgt := 28) (D_Model_proof 13 rfl) rfl (w2) (fun c3 => ?_) (fun c3 => ?_)
      · replace h := ite_f h c3
        refine j_aloadn (k := 0) (D_Model_proof 16 rfl) rfl rfl ?_
        refine j_iloadn (k := 1) (D_Model_proof 17 rfl) rfl rfl ?_
        obtain ⟨q3, e3, h⟩ := Option.bind_eq_some_iff.mp h
        refine j_cVv (c_Model_proves (ha1) e3) rfl lk_Model_561 mok_Model_proves kd_81 lc_81 rfl (by decide) rfl rfl (Nat.le_of_ble_eq_true rfl) (D_Model_proof 18 rfl) ?_
        refine j_iconst (v := 0) (D_Model_proof 19 rfl) rfl ?_
        refine j_istoren (L' := [(3, vi 0), (0, rf X 81), (1, vi a1), (2, vi a2)]) (D_Model_proof 20 rfl) rfl (wr_lit rfl) (by decide) rfl ?_
        refine j_iconst (v := 0) (D_Model_proof 21 rfl) rfl ?_
        refine j_istore (L' := [(4, vi 0), (3, vi 0), (0, rf X 81), (1, vi a1), (2, vi a2)]) (D_Model_proof 22 rfl) (wr_lit rfl) (by decide) rfl ?_
        refine j_loc [2, 3, 4, 1, 0] rfl ?_
        exact s_Model_proof_L38 FU (ha1) (ha2) (wr_lit rfl) (wr_lit rfl) h
      · replace h := ite_t h c3
        refine j_iconst (v := (-1)) (D_Model_proof 14 rfl) rfl ?_
        exact j_iret (D_Model_proof 15 rfl) rfl (wr_lit rfl) rfl rfl (leafI h (wr_n (wr_lit rfl)))
abbrev M_Hall_proved : MI := (⟨"InquestHall", "proved", "(I)Z"⟩, prog_1_method_30_code, 2, (some .boolean))
theorem cw_Hall_proved : Cond.code M_Hall_proved.1 M_Hall_proved.2.1 M_Hall_proved.2.2.1 M_Hall_proved.2.2.2 ∈ TS := mTS (List.mem_of_getElem? (i := 1235) (by decide +kernel)) (by decide +kernel)
theorem lk_Hall_327 : Cond.methodLink "InquestHall" 327 M_Hall_born.1 ∈ TS := mTS (List.mem_of_getElem? (i := 1236) (by decide +kernel)) (by decide +kernel)
theorem mok_Hall_born : MOK M_Hall_born 3 := ⟨mTS (List.mem_of_getElem? (i := 688) (by decide +kernel)) (by decide +kernel), mTS (List.mem_of_getElem? (i := 689) (by decide +kernel)) (by decide +kernel), mTS (List.mem_of_getElem? (i := 122) (by decide +kernel)) (by decide +kernel), cw_Hall_born, ⟨by decide, by decide, by decide +kernel⟩, by decide +kernel, by decide⟩
def tb_Hall_proved : List (Nat × Instr × Nat) := [(0, .aload_n 0, 1), (1, .getfield 12, 3), (4, .iload_n 1, 1), (5, .invokevirtual 122, 3), (8, .ifCond .eq 15, 3), (11, .aload_n 0, 1), (12, .getfield 42, 3), (15, .getfield 137, 3), (18, .iload_n 1, 1), (19, .iaload, 1), (20, .ifCond .ne 5, 3), (23, .iconst 0, 1), (24, .ireturn, 1), (25, .aload_n 0, 1), (26, .getfield 42, 3), (29, .iload_n 1, 1), (30, .invokevirtual 308, 3), (33, .aload_n 0, 1), (34, .getfield 42, 3), (37, .getfield 320, 3), (40, .ifCond .eq 29, 3), (43, .aload_n 0, 1), (44, .iload_n 1, 1), (45, .aload_n 0, 1), (46, .getfield 42, 3), (49, .getfield 311, 3), (52, .aload_n 0, 1), (53, .getfield 42, 3), (56, .getfield 314, 3), (59, .invokevirtual 327, 3), (62, .ifCond .eq 7, 3), (65, .iconst 1, 1), (66, .goto 4, 3), (69, .iconst 0, 1), (70, .ireturn, 1)]
theorem D_Hall_proved (i : Nat) {pc len : Nat} {ins : Instr} (hi : tb_Hall_proved[i]? = some (pc, ins, len)) : decode M_Hall_proved.2.1 pc = .ok (ins, len) := dec_of (by decide +kernel) i hi
def f_Hall_proved (G : GS) (a1 : Int) : Option (Int × GS) :=
  (f_People_has G a1).bind fun q1 =>
  if q1 = 0 then
    some (0, G)
  else
    gd (0 ≤ a1 ∧ a1 < 32) <|
    if gi G 25 a1.toNat = 0 then
      some (0, G)
    else
      (f_Remembered_prove G a1).bind fun q2 =>
      if gi q2 23 8 = 0 then
        some (0, q2)
      else
        (f_Hall_born q2 a1 (gi q2 23 5) (gi q2 23 6)).bind fun q3 =>
        if q3.1 = 0 then
          some (0, q3.2)
        else
          some (1, q3.2)
theorem c_Hall_proved {X : XT} {G : GS} {a1 : Int} {r : Int × GS} (ha1 : wr a1 = a1) (h : f_Hall_proved G a1 = some r) : Call X true 11 0 0 M_Hall_proved [rf X 0, vi a1] NC G (Rz r.1 r.2) := by
  refine Call_of_J cw_Hall_proved (by decide +kernel) (Nat.le_of_ble_eq_true rfl) ?_
  unfold f_Hall_proved at h
  show J X true 11 0 0 M_Hall_proved (Rz r.1 r.2) NC 0 0 0 [(0, rf X 0), (1, vi a1)] [] G
  refine j_aloadn (k := 0) (D_Hall_proved 0 rfl) rfl rfl ?_
  refine j_getR rfl fa_Hall_12 kd_0 lc_0 (by decide) rfl fx_0_0 (by decide) (D_Hall_proved 1 rfl) ?_
  refine j_iloadn (k := 1) (D_Hall_proved 2 rfl) rfl rfl ?_
  obtain ⟨q1, e1, h⟩ := Option.bind_eq_some_iff.mp h
  refine j_cVz (c_People_has (ha1) e1) rfl lk_Hall_122 mok_People_has kd_1 lc_1 rfl (by decide) rfl rfl (Nat.le_of_ble_eq_true rfl) (D_Hall_proved 3 rfl) (fun w1 bw1 => ?_)
  refine j_if_eq (tgt := 23) (D_Hall_proved 4 rfl) rfl (w1) (fun c1 => ?_) (fun c1 => ?_)
  · replace h := ite_t h c1
    refine j_iconst (v := 0) (D_Hall_proved 11 rfl) rfl ?_
    exact j_zret (D_Hall_proved 12 rfl) rfl (wr_lit rfl) (nz_01 (by decide)) rfl rfl (leafZ h (wr_n (wr_lit rfl)) (by decide))
  · replace h := ite_f h c1
    refine j_aloadn (k := 0) (D_Hall_proved 5 rfl) rfl rfl ?_
    refine j_getR rfl fa_Hall_42 kd_0 lc_0 (by decide) rfl fx_0_4 (by decide) (D_Hall_proved 6 rfl) ?_
    refine j_getR rfl fa_Hall_137 kd_23 lc_23 (by decide) rfl fx_23_1 (by decide) (D_Hall_proved 7 rfl) ?_
    refine j_iloadn (k := 1) (D_Hall_proved 8 rfl) rfl rfl ?_
    have g1 := gd_c h
    replace h := gd_s h
    refine j_iald (NI := 32) (D_Hall_proved 9 rfl) kd_25 lc_25 (ha1) rfl g1.1 g1.2 ?_
    refine j_if_ne (tgt := 25) (D_Hall_proved 10 rfl) rfl (wr_gi _ _ _) (fun c2 => ?_) (fun c2 => ?_)
    · replace h := ite_f h c2
      refine j_aloadn (k := 0) (D_Hall_proved 13 rfl) rfl rfl ?_
      refine j_getR rfl fa_Hall_42 kd_0 lc_0 (by decide) rfl fx_0_4 (by decide) (D_Hall_proved 14 rfl) ?_
      refine j_iloadn (k := 1) (D_Hall_proved 15 rfl) rfl rfl ?_
      obtain ⟨q2, e2, h⟩ := Option.bind_eq_some_iff.mp h
      refine j_cVv (c_Remembered_prove (ha1) e2) rfl lk_Hall_308 mok_Remembered_prove kd_23 lc_23 rfl (by decide) rfl rfl (Nat.le_of_ble_eq_true rfl) (D_Hall_proved 16 rfl) ?_
      refine j_aloadn (k := 0) (D_Hall_proved 17 rfl) rfl rfl ?_
      refine j_getR rfl fa_Hall_42 kd_0 lc_0 (by decide) rfl fx_0_4 (by decide) (D_Hall_proved 18 rfl) ?_
      refine j_getI rfl fa_Hall_320 kd_23 lc_23 (by decide) rfl (D_Hall_proved 19 rfl) ?_
      refine j_if_eq (tgt := 69) (D_Hall_proved 20 rfl) rfl (wr_gi _ _ _) (fun c3 => ?_) (fun c3 => ?_)
      · replace h := ite_t h c3
        refine j_iconst (v := 0) (D_Hall_proved 33 rfl) rfl ?_
        exact j_zret (D_Hall_proved 34 rfl) rfl (wr_lit rfl) (nz_01 (by decide)) rfl rfl (leafZ h (wr_n (wr_lit rfl)) (by decide))
      · replace h := ite_f h c3
        refine j_aloadn (k := 0) (D_Hall_proved 21 rfl) rfl rfl ?_
        refine j_iloadn (k := 1) (D_Hall_proved 22 rfl) rfl rfl ?_
        refine j_aloadn (k := 0) (D_Hall_proved 23 rfl) rfl rfl ?_
        refine j_getR rfl fa_Hall_42 kd_0 lc_0 (by decide) rfl fx_0_4 (by decide) (D_Hall_proved 24 rfl) ?_
        refine j_getI rfl fa_Hall_311 kd_23 lc_23 (by decide) rfl (D_Hall_proved 25 rfl) ?_
        refine j_aloadn (k := 0) (D_Hall_proved 26 rfl) rfl rfl ?_
        refine j_getR rfl fa_Hall_42 kd_0 lc_0 (by decide) rfl fx_0_4 (by decide) (D_Hall_proved 27 rfl) ?_
        refine j_getI rfl fa_Hall_314 kd_23 lc_23 (by decide) rfl (D_Hall_proved 28 rfl) ?_
        obtain ⟨q3, e3, h⟩ := Option.bind_eq_some_iff.mp h
        refine j_cVz (c_Hall_born (ha1) (wr_gi _ _ _) (wr_gi _ _ _) e3) rfl lk_Hall_327 mok_Hall_born kd_0 lc_0 rfl (by decide) rfl rfl (Nat.le_of_ble_eq_true rfl) (D_Hall_proved 29 rfl) (fun w2 bw2 => ?_)
        refine j_if_eq (tgt := 69) (D_Hall_proved 30 rfl) rfl (w2) (fun c4 => ?_) (fun c4 => ?_)
        · replace h := ite_t h c4
          refine j_iconst (v := 0) (D_Hall_proved 33 rfl) rfl ?_
          exact j_zret (D_Hall_proved 34 rfl) rfl (wr_lit rfl) (nz_01 (by decide)) rfl rfl (leafZ h (wr_n (wr_lit rfl)) (by decide))
        · replace h := ite_f h c4
          refine j_iconst (v := 1) (D_Hall_proved 31 rfl) rfl ?_
          refine j_goto (tgt := 70) (D_Hall_proved 32 rfl) rfl ?_
          exact j_zret (D_Hall_proved 34 rfl) rfl (wr_lit rfl) (nz_01 (by decide)) rfl rfl (leafZ h (wr_n (wr_lit rfl)) (by decide))
    · replace h := ite_t h c2
      refine j_iconst (v := 0) (D_Hall_proved 11 rfl) rfl ?_
      exact j_zret (D_Hall_proved 12 rfl) rfl (wr_lit rfl) (nz_01 (by decide)) rfl rfl (leafZ h (wr_n (wr_lit rfl)) (by decide))
abbrev M_Model_proved : MI := (⟨"InquestHallModel", "proved", "(I)Z"⟩, prog_14_method_96_code, 2, (some .boolean))
theorem cw_Model_proved : Cond.code M_Model_proved.1 M_Model_proved.2.1 M_Model_proved.2.2.1 M_Model_proved.2.2.2 ∈ TS := mTS (List.mem_of_getElem? (i := 1976) (by decide +kernel)) (by decide +kernel)
theorem lk_Model_567 : Cond.methodLink "InquestHallModel" 567 M_Model_born.1 ∈ TS := mTS (List.mem_of_getElem? (i := 1977) (by decide +kernel)) (by decide +kernel)
theorem mok_Model_born : MOK M_Model_born 3 := ⟨mTS (List.mem_of_getElem? (i := 1603) (by decide +kernel)) (by decide +kernel), mTS (List.mem_of_getElem? (i := 1604) (by decide +kernel)) (by decide +kernel), mTS (List.mem_of_getElem? (i := 139) (by decide +kernel)) (by decide +kernel), cw_Model_born, ⟨by decide, by decide, by decide +kernel⟩, by decide +kernel, by decide⟩
def tb_Model_proved : List (Nat × Instr × Nat) := [(0, .aload_n 0, 1), (1, .iload_n 1, 1), (2, .invokevirtual 198, 3), (5, .ifCond .eq 12, 3), (8, .aload_n 0, 1), (9, .getfield 31, 3), (12, .iload_n 1, 1), (13, .iaload, 1), (14, .ifCond .ne 5, 3), (17, .iconst 0, 1), (18, .ireturn, 1), (19, .aload_n 0, 1), (20, .iload_n 1, 1), (21, .invokevirtual 561, 3), (24, .aload_n 0, 1), (25, .invokevirtual 564, 3), (28, .ifCond .eq 23, 3), (31, .aload_n 0, 1), (32, .iload_n 1, 1), (33, .aload_n 0, 1), (34, .getfield 552, 3), (37, .aload_n 0, 1), (38, .getfield 558, 3), (41, .invokevirtual 567, 3), (44, .ifCond .eq 7, 3), (47, .iconst 1, 1), (48, .goto 4, 3), (51, .iconst 0, 1), (52, .ireturn, 1)]
theorem D_Model_proved (i : Nat) {pc len : Nat} {ins : Instr} (hi : tb_Model_proved[i]? = some (pc, ins, len)) : decode M_Model_proved.2.1 pc = .ok (ins, len) := dec_of (by decide +kernel) i hi
def f_Model_proved (G : GS) (a1 : Int) : Option (Int × GS) :=
  (f_Model_isPerson G a1).bind fun q1 =>
  if q1 = 0 then
    some (0, G)
  else
    gd (0 ≤ a1 ∧ a1 < 32) <|
    if gi G 89 a1.toNat = 0 then
      some (0, G)
    else
      (f_Model_proves G a1).bind fun q2 =>
      (f_Model_isSure q2).bind fun q3 =>
      if q3 = 0 then
        some (0, q2)
      else
        (f_Model_born q2 a1 (gi q2 81 79) (gi q2 81 80)).bind fun q4 =>
        if q4.1 = 0 then
          some (0, q4.2)
        else
          some (1, q4.2)
theorem c_Model_proved {X : XT} {G : GS} {a1 : Int} {r : Int × GS} (ha1 : wr a1 = a1) (h : f_Model_proved G a1 = some r) : Call X true 10 0 0 M_Model_proved [rf X 81, vi a1] NC G (Rz r.1 r.2) := by
  refine Call_of_J cw_Model_proved (by decide +kernel) (Nat.le_of_ble_eq_true rfl) ?_
  unfold f_Model_proved at h
  show J X true 10 0 0 M_Model_proved (Rz r.1 r.2) NC 0 0 0 [(0, rf X 81), (1, vi a1)] [] G
  refine j_aloadn (k := 0) (D_Model_proved 0 rfl) rfl rfl ?_
  refine j_iloadn (k := 1) (D_Model_proved 1 rfl) rfl rfl ?_
  obtain ⟨q1, e1, h⟩ := Option.bind_eq_some_iff.mp h
  refine j_cVz (c_Model_isPerson (ha1) e1) rfl lk_Model_198 mok_Model_isPerson kd_81 lc_81 rfl (by decide) rfl rfl (Nat.le_of_ble_eq_true rfl) (D_Model_proved 2 rfl) (fun w1 bw1 => ?_)
  refine j_if_eq (tgt := 17) (D_Model_proved 3 rfl) rfl (w1) (fun c1 => ?_) (fun c1 => ?_)
  · replace h := ite_t h c1
    refine j_iconst (v := 0) (D_Model_proved 9 rfl) rfl ?_
    exact j_zret (D_Model_proved 10 rfl) rfl (wr_lit rfl) (nz_01 (by decide)) rfl rfl (leafZ h (wr_n (wr_lit rfl)) (by decide))
  · replace h := ite_f h c1
    refine j_aloadn (k := 0) (D_Model_proved 4 rfl) rfl rfl ?_
    refine j_getR rfl fa_Model_31 kd_81 lc_81 (by decide) rfl fx_81_9 (by decide) (D_Model_proved 5 rfl) ?_
    refine j_iloadn (k := 1) (D_Model_proved 6 rfl) rfl rfl ?_
    have g1 := gd_c h
    replace h := gd_s h
    refine j_iald (NI := 32) (D_Model_proved 7 rfl) kd_89 lc_89 (ha1) rfl g1.1 g1.2 ?_
    refine j_if_ne (tgt := 19) (D_Model_proved 8 rfl) rfl (wr_gi _ _ _) (fun c2 => ?_) (fun c2 => ?_)
    · replace h := ite_f h c2
      refine j_aloadn (k := 0) (D_Model_proved 11 rfl) rfl rfl ?_
      refine j_iloadn (k := 1) (D_Model_proved 12 rfl) rfl rfl ?_
      obtain ⟨q2, e2, h⟩ := Option.bind_eq_some_iff.mp h
      refine j_cVv (c_Model_proves (ha1) e2) rfl lk_Model_561 mok_Model_proves kd_81 lc_81 rfl (by decide) rfl rfl (Nat.le_of_ble_eq_true rfl) (D_Model_proved 13 rfl) ?_
      refine j_aloadn (k := 0) (D_Model_proved 14 rfl) rfl rfl ?_
      obtain ⟨q3, e3, h⟩ := Option.bind_eq_some_iff.mp h
      refine j_cVz (c_Model_isSure e3) rfl lk_Model_564 mok_Model_isSure kd_81 lc_81 rfl (by decide) rfl rfl (Nat.le_of_ble_eq_true rfl) (D_Model_proved 15 rfl) (fun w2 bw2 => ?_)
      refine j_if_eq (tgt := 51) (D_Model_proved 16 rfl) rfl (w2) (fun c3 => ?_) (fun c3 => ?_)
      · replace h := ite_t h c3
        refine j_iconst (v := 0) (D_Model_proved 27 rfl) rfl ?_
        exact j_zret (D_Model_proved 28 rfl) rfl (wr_lit rfl) (nz_01 (by decide)) rfl rfl (leafZ h (wr_n (wr_lit rfl)) (by decide))
      · replace h := ite_f h c3
        refine j_aloadn (k := 0) (D_Model_proved 17 rfl) rfl rfl ?_
        refine j_iloadn (k := 1) (D_Model_proved 18 rfl) rfl rfl ?_
        refine j_aloadn (k := 0) (D_Model_proved 19 rfl) rfl rfl ?_
        refine j_getI rfl fa_Model_552 kd_81 lc_81 (by decide) rfl (D_Model_proved 20 rfl) ?_
        refine j_aloadn (k := 0) (D_Model_proved 21 rfl) rfl rfl ?_
        refine j_getI rfl fa_Model_558 kd_81 lc_81 (by decide) rfl (D_Model_proved 22 rfl) ?_
        obtain ⟨q4, e4, h⟩ := Option.bind_eq_some_iff.mp h
        refine j_cVz (c_Model_born (ha1) (wr_gi _ _ _) (wr_gi _ _ _) e4) rfl lk_Model_567 mok_Model_born kd_81 lc_81 rfl (by decide) rfl rfl (Nat.le_of_ble_eq_true rfl) (D_Model_proved 23 rfl) (fun w3 bw3 => ?_)
        refine j_if_eq (tgt := 51) (D_Model_proved 24 rfl) rfl (w3) (fun c4 => ?_) (fun c4 => ?_)
        · replace h := ite_t h c4
          refine j_iconst (v := 0) (D_Model_proved 27 rfl) rfl ?_
          exact j_zret (D_Model_proved 28 rfl) rfl (wr_lit rfl) (nz_01 (by decide)) rfl rfl (leafZ h (wr_n (wr_lit rfl)) (by decide))
        · replace h := ite_f h c4
          refine j_iconst (v := 1) (D_Model_proved 25 rfl) rfl ?_
          refine j_goto (tgt := 52) (D_Model_proved 26 rfl) rfl ?_
          exact j_zret (D_Model_proved 28 rfl) rfl (wr_lit rfl) (nz_01 (by decide)) rfl rfl (leafZ h (wr_n (wr_lit rfl)) (by decide))
    · replace h := ite_t h c2
      refine j_iconst (v := 0) (D_Model_proved 9 rfl) rfl ?_
      exact j_zret (D_Model_proved 10 rfl) rfl (wr_lit rfl) (nz_01 (by decide)) rfl rfl (leafZ h (wr_n (wr_lit rfl)) (by decide))
abbrev M_Juries_has : MI := (⟨"InquestHall$Juries", "has", "(I)Z"⟩, prog_3_method_2_code, 1, (some .boolean))
theorem cw_Juries_has : Cond.code M_Juries_has.1 M_Juries_has.2.1 M_Juries_has.2.2.1 M_Juries_has.2.2.2 ∈ TS := mTS (List.mem_of_getElem? (i := 1243) (by decide +kernel)) (by decide +kernel)
def tb_Juries_has : List (Nat × Instr × Nat) := [(0, .iload_n 0, 1), (1, .ifCond .lt 13, 3), (4, .iload_n 0, 1), (5, .bipush 10, 2), (7, .if_icmp .ge 7, 3), (10, .iconst 1, 1), (11, .goto 4, 3), (14, .iconst 0, 1), (15, .ireturn, 1)]
theorem D_Juries_has (i : Nat) {pc len : Nat} {ins : Instr} (hi : tb_Juries_has[i]? = some (pc, ins, len)) : decode M_Juries_has.2.1 pc = .ok (ins, len) := dec_of (by decide +kernel) i hi
def f_Juries_has (G : GS) (a0 : Int) : Option (Int) :=
  if a0 < 0 then
    some 0
  else
    if 10 ≤ a0 then
      some 0
    else
      some 1
theorem c_Juries_has {X : XT} {G : GS} {a0 : Int} {r : Int} (ha0 : wr a0 = a0) (h : f_Juries_has G a0 = some r) : Call X true 6 0 0 M_Juries_has [vi a0] NC G (Rz r G) := by
  refine Call_of_J cw_Juries_has (by decide +kernel) (Nat.le_of_ble_eq_true rfl) ?_
  unfold f_Juries_has at h
  show J X true 6 0 0 M_Juries_has (Rz r G) NC 0 0 0 [(0, vi a0)] [] G
  refine j_iloadn (k := 0) (D_Juries_has 0 rfl) rfl rfl ?_
  refine j_if_lt (tgt := 14) (D_Juries_has 1 rfl) rfl (ha0) (fun c1 => ?_) (fun c1 => ?_)
  · replace h := ite_t h c1
    refine j_iconst (v := 0) (D_Juries_has 7 rfl) rfl ?_
    exact j_zret (D_Juries_has 8 rfl) rfl (wr_lit rfl) (nz_01 (by decide)) rfl rfl (leafZo h (wr_n (wr_lit rfl)) (by decide))
  · replace h := ite_f h c1
    refine j_iloadn (k := 0) (D_Juries_has 2 rfl) rfl rfl ?_
    refine j_bipush (v := 10) (D_Juries_has 3 rfl) rfl ?_
    refine j_ic_ge (tgt := 14) (D_Juries_has 4 rfl) rfl (ha0) (wr_lit rfl) (fun c2 => ?_) (fun c2 => ?_)
    · replace h := ite_t h c2
      refine j_iconst (v := 0) (D_Juries_has 7 rfl) rfl ?_
      exact j_zret (D_Juries_has 8 rfl) rfl (wr_lit rfl) (nz_01 (by decide)) rfl rfl (leafZo h (wr_n (wr_lit rfl)) (by decide))
    · replace h := ite_f h c2
      refine j_iconst (v := 1) (D_Juries_has 5 rfl) rfl ?_
      refine j_goto (tgt := 15) (D_Juries_has 6 rfl) rfl ?_
      exact j_zret (D_Juries_has 8 rfl) rfl (wr_lit rfl) (nz_01 (by decide)) rfl rfl (leafZo h (wr_n (wr_lit rfl)) (by decide))
abbrev M_Juries_say : MI := (⟨"InquestHall$Juries", "say", "(III)V"⟩, prog_3_method_3_code, 4, none)
theorem cw_Juries_say : Cond.code M_Juries_say.1 M_Juries_say.2.1 M_Juries_say.2.2.1 M_Juries_say.2.2.2 ∈ TS := mTS (List.mem_of_getElem? (i := 1247) (by decide +kernel)) (by decide +kernel)
theorem fa_Juries_13 : FA "InquestHall$Juries" 13 10 0 true (.array .int) := ⟨_, _, _, _, ok_Juries, by decide, mTS (List.mem_of_getElem? (i := 514) (by decide +kernel)) (by decide +kernel), rfl, rfl⟩
theorem kd_45 : kd 45 = (10 + 5, 5) := rfl
theorem lc_45 : 45 < NC := by decide
theorem fx_45_0 {G : GS} (w : WF true NC G) : G.2.2 45 0 = 46 := w.2 rfl (45, 0, 46) (by decide)
theorem kd_46 : kd 46 = (0, 120) := rfl
theorem lc_46 : 46 < NC := by decide
theorem fa_Juries_29 : FA "InquestHall$Juries" 29 10 4 false .boolean := ⟨_, _, _, _, ok_Juries, by decide, mTS (List.mem_of_getElem? (i := 519) (by decide +kernel)) (by decide +kernel), rfl, rfl⟩
def tb_Juries_say : List (Nat × Instr × Nat) := [(0, .aload_n 0, 1), (1, .getfield 13, 3), (4, .iload_n 1, 1), (5, .bipush 12, 2), (7, .imul, 1), (8, .iload_n 2, 1), (9, .iadd, 1), (10, .iload_n 3, 1), (11, .iastore, 1), (12, .aload_n 0, 1), (13, .iconst 0, 1), (14, .putfield 29, 3), (17, .return_, 1)]
theorem D_Juries_say (i : Nat) {pc len : Nat} {ins : Instr} (hi : tb_Juries_say[i]? = some (pc, ins, len)) : decode M_Juries_say.2.1 pc = .ok (ins, len) := dec_of (by decide +kernel) i hi
def f_Juries_say (G : GS) (a1 : Int) (a2 : Int) (a3 : Int) : Option (GS) :=
  gd (0 ≤ wr ((a1 * 12) + a2) ∧ wr ((a1 * 12) + a2) < 120) <|
  wG (si G 46 (wr ((a1 * 12) + a2)).toNat a3) fun G1 =>
  wG (si G1 45 4 0) fun G2 =>
  some G2
theorem c_Juries_say {X : XT} {G : GS} {a1 : Int} {a2 : Int} {a3 : Int} {r : GS} (ha1 : wr a1 = a1) (ha2 : wr a2 = a2) (ha3 : wr a3 = a3) (h : f_Juries_say G a1 a2 a3 = some r) : Call X true 6 0 0 M_Juries_say [rf X 45, vi a1, vi a2, vi a3] NC G (Rv r) := by
  refine Call_of_J cw_Juries_say (by decide +kernel) (Nat.le_of_ble_eq_true rfl) ?_
  unfold f_Juries_say at h
  show J X true 6 0 0 M_Juries_say (Rv r) NC 0 0 0 [(0, rf X 45), (1, vi a1), (2, vi a2), (3, vi a3)] [] G
  refine j_aloadn (k := 0) (D_Juries_say 0 rfl) rfl rfl ?_
  refine j_getR rfl fa_Juries_13 kd_45 lc_45 (by decide) rfl fx_45_0 (by decide) (D_Juries_say 1 rfl) ?_
  refine j_iloadn (k := 1) (D_Juries_say 2 rfl) rfl rfl ?_
  refine j_bipush (v := 12) (D_Juries_say 3 rfl) rfl ?_
  refine j_imul (D_Juries_say 4 rfl) ?_
  refine j_iloadn (k := 2) (D_Juries_say 5 rfl) rfl rfl ?_
  refine j_iadd (D_Juries_say 6 rfl) ?_
  refine j_iloadn (k := 3) (D_Juries_say 7 rfl) rfl rfl ?_
  have g1 := gd_c h
  replace h := gd_s h
  refine j_iast (NI := 120) (D_Juries_say 8 rfl) kd_46 lc_46 (rfl) rfl g1.1 g1.2 ?_
  refine j_gen (fun G1 e1 => ?_)
  replace h := wG_at h e1
  refine j_aloadn (k := 0) (D_Juries_say 9 rfl) rfl rfl ?_
  refine j_iconst (v := 0) (D_Juries_say 10 rfl) rfl ?_
  refine j_putZ rfl fa_Juries_29 kd_45 lc_45 (by decide) rfl (wr_lit rfl) (by decide) (D_Juries_say 11 rfl) ?_
  refine j_gen (fun G2 e2 => ?_)
  replace h := wG_at h e2
  exact j_vret (D_Juries_say 12 rfl) rfl rfl rfl (leafV h)
abbrev M_Hall_find : MI := (⟨"InquestHall", "find", "(III)Z"⟩, prog_1_method_31_code, 4, (some .boolean))
theorem cw_Hall_find : Cond.code M_Hall_find.1 M_Hall_find.2.1 M_Hall_find.2.2.1 M_Hall_find.2.2.2 ∈ TS := mTS (List.mem_of_getElem? (i := 1240) (by decide +kernel)) (by decide +kernel)
theorem lk_Hall_330 : Cond.methodLink "InquestHall" 330 M_Juries_has.1 ∈ TS := mTS (List.mem_of_getElem? (i := 1241) (by decide +kernel)) (by decide +kernel)
theorem sok_Juries_has : SOK M_Juries_has 1 := ⟨mTS (List.mem_of_getElem? (i := 1242) (by decide +kernel)) (by decide +kernel), mTS (List.mem_of_getElem? (i := 137) (by decide +kernel)) (by decide +kernel), cw_Juries_has, ⟨by decide, by decide, by decide +kernel⟩, by decide +kernel, by decide⟩
theorem fa_Hall_81 : FA "InquestHall" 81 0 9 true (.object "InquestHall$Juries") := ⟨_, _, _, _, ok_Hall, by decide, mTS (List.mem_of_getElem? (i := 601) (by decide +kernel)) (by decide +kernel), rfl, rfl⟩
theorem fx_0_9 {G : GS} (w : WF true NC G) : G.2.2 0 9 = 45 := w.2 rfl (0, 9, 45) (by decide)
theorem lk_Hall_331 : Cond.methodLink "InquestHall" 331 M_Juries_say.1 ∈ TS := mTS (List.mem_of_getElem? (i := 1244) (by decide +kernel)) (by decide +kernel)
theorem mok_Juries_say : MOK M_Juries_say 3 := ⟨mTS (List.mem_of_getElem? (i := 1245) (by decide +kernel)) (by decide +kernel), mTS (List.mem_of_getElem? (i := 1246) (by decide +kernel)) (by decide +kernel), mTS (List.mem_of_getElem? (i := 137) (by decide +kernel)) (by decide +kernel), cw_Juries_say, ⟨by decide, by decide, by decide +kernel⟩, by decide +kernel, by decide⟩
def tb_Hall_find : List (Nat × Instr × Nat) := [(0, .iload_n 1, 1), (1, .invokestatic 330, 3), (4, .ifCond .eq 35, 3), (7, .aload_n 0, 1), (8, .getfield 19, 3), (11, .iload_n 2, 1), (12, .invokevirtual 150, 3), (15, .ifCond .eq 24, 3), (18, .iload_n 3, 1), (19, .iload_n 2, 1), (20, .if_icmp .eq 19, 3), (23, .iload_n 3, 1), (24, .iconst (-1), 1), (25, .if_icmp .eq 16, 3), (28, .aload_n 0, 1), (29, .getfield 19, 3), (32, .iload_n 3, 1), (33, .invokevirtual 150, 3), (36, .ifCond .ne 5, 3), (39, .iconst 0, 1), (40, .ireturn, 1), (41, .aload_n 0, 1), (42, .getfield 81, 3), (45, .iload_n 1, 1), (46, .iload_n 2, 1), (47, .iload_n 3, 1), (48, .invokevirtual 331, 3), (51, .iconst 1, 1), (52, .ireturn, 1)]
theorem D_Hall_find (i : Nat) {pc len : Nat} {ins : Instr} (hi : tb_Hall_find[i]? = some (pc, ins, len)) : decode M_Hall_find.2.1 pc = .ok (ins, len) := dec_of (by decide +kernel) i hi
def f_Hall_find_L41 (G : GS) (x1 : Int) (x2 : Int) (x3 : Int) : Option (Int × GS) :=
  (f_Juries_say G x1 x2 x3).bind fun q1 =>
  some (1, q1)
theorem s_Hall_find_L41 {X : XT} {r : Int × GS} : ∀ {G : GS} {x1 : Int} {x2 : Int} {x3 : Int}, wr x1 = x1 → wr x2 = x2 → wr x3 = x3 → f_Hall_find_L41 G x1 x2 x3 = some r → J X true 7 0 0 M_Hall_find (Rz r.1 r.2) NC 0 0 41 [(0, rf X 0), (1, vi x1), (2, vi x2), (3, vi x3)] [] G := by
  intro G x1 x2 x3 hx1 hx2 hx3 h
  unfold f_Hall_find_L41 at h
  refine j_aloadn (k := 0) (D_Hall_find 21 rfl) rfl rfl ?_
  refine j_getR rfl fa_Hall_81 kd_0 lc_0 (by decide) rfl fx_0_9 (by decide) (D_Hall_find 22 rfl) ?_
  refine j_iloadn (k := 1) (D_Hall_find 23 rfl) rfl rfl ?_
  refine j_iloadn (k := 2) (D_Hall_find 24 rfl) rfl rfl ?_
  refine j_iloadn (k := 3) (D_Hall_find 25 rfl) rfl rfl ?_
  obtain ⟨q1, e1, h⟩ := Option.bind_eq_some_iff.mp h
  refine j_cVv (c_Juries_say (hx1) (hx2) (hx3) e1) rfl lk_Hall_331 mok_Juries_say kd_45 lc_45 rfl (by decide) rfl rfl (Nat.le_of_ble_eq_true rfl) (D_Hall_find 26 rfl) ?_
  refine j_iconst (v := 1) (D_Hall_find 27 rfl) rfl ?_
  exact j_zret (D_Hall_find 28 rfl) rfl (wr_lit rfl) (nz_01 (by decide)) rfl rfl (leafZ h (wr_n (wr_lit rfl)) (by decide))
def f_Hall_find (G : GS) (a1 : Int) (a2 : Int) (a3 : Int) : Option (Int × GS) :=
  (f_Juries_has G a1).bind fun q1 =>
  if q1 = 0 then
    some (0, G)
  else
    (f_Lands_has G a2).bind fun q2 =>
    if q2 = 0 then
      some (0, G)
    else
      if a3 = a2 then
        some (0, G)
      else
        if a3 = (-1) then
          f_Hall_find_L41 G a1 a2 a3
        else
          (f_Lands_has G a3).bind fun q3 =>
          if q3 = 0 then
            some (0, G)
          else
            f_Hall_find_L41 G a1 a2 a3
theorem c_Hall_find {X : XT} {G : GS} {a1 : Int} {a2 : Int} {a3 : Int} {r : Int × GS} (ha1 : wr a1 = a1) (ha2 : wr a2 = a2) (ha3 : wr a3 = a3) (h : f_Hall_find G a1 a2 a3 = some r) : Call X true 7 0 0 M_Hall_find [rf X 0, vi a1, vi a2, vi a3] NC G (Rz r.1 r.2) := by
  refine Call_of_J cw_Hall_find (by decide +kernel) (Nat.le_of_ble_eq_true rfl) ?_
  unfold f_Hall_find at h
  show J X true 7 0 0 M_Hall_find (Rz r.1 r.2) NC 0 0 0 [(0, rf X 0), (1, vi a1), (2, vi a2), (3, vi a3)] [] G
  refine j_iloadn (k := 1) (D_Hall_find 0 rfl) rfl rfl ?_
  obtain ⟨q1, e1, h⟩ := Option.bind_eq_some_iff.mp h
  refine j_cSz (c_Juries_has (ha1) e1) rfl lk_Hall_330 sok_Juries_has (by decide) rfl rfl (Nat.le_of_ble_eq_true rfl) (D_Hall_find 1 rfl) (fun w1 bw1 => ?_)
  refine j_if_eq (tgt := 39) (D_Hall_find 2 rfl) rfl (w1) (fun c1 => ?_) (fun c1 => ?_)
  · replace h := ite_t h c1
    refine j_iconst (v := 0) (D_Hall_find 19 rfl) rfl ?_
    exact j_zret (D_Hall_find 20 rfl) rfl (wr_lit rfl) (nz_01 (by decide)) rfl rfl (leafZ h (wr_n (wr_lit rfl)) (by decide))
  · replace h := ite_f h c1
    refine j_aloadn (k := 0) (D_Hall_find 3 rfl) rfl rfl ?_
    refine j_getR rfl fa_Hall_19 kd_0 lc_0 (by decide) rfl fx_0_1 (by decide) (D_Hall_find 4 rfl) ?_
    refine j_iloadn (k := 2) (D_Hall_find 5 rfl) rfl rfl ?_
    obtain ⟨q2, e2, h⟩ := Option.bind_eq_some_iff.mp h
    refine j_cVz (c_Lands_has (ha2) e2) rfl lk_Hall_150 mok_Lands_has kd_9 lc_9 rfl (by decide) rfl rfl (Nat.le_of_ble_eq_true rfl) (D_Hall_find 6 rfl) (fun w2 bw2 => ?_)
    refine j_if_eq (tgt := 39) (D_Hall_find 7 rfl) rfl (w2) (fun c2 => ?_) (fun c2 => ?_)
    · replace h := ite_t h c2
      refine j_iconst (v := 0) (D_Hall_find 19 rfl) rfl ?_
      exact j_zret (D_Hall_find 20 rfl) rfl (wr_lit rfl) (nz_01 (by decide)) rfl rfl (leafZ h (wr_n (wr_lit rfl)) (by decide))
    · replace h := ite_f h c2
      refine j_iloadn (k := 3) (D_Hall_find 8 rfl) rfl rfl ?_
      refine j_iloadn (k := 2) (D_Hall_find 9 rfl) rfl rfl ?_
      refine j_ic_eq (tgt := 39) (D_Hall_find 10 rfl) rfl (ha3) (ha2) (fun c3 => ?_) (fun c3 => ?_)
      · replace h := ite_t h c3
        refine j_iconst (v := 0) (D_Hall_find 19 rfl) rfl ?_
        exact j_zret (D_Hall_find 20 rfl) rfl (wr_lit rfl) (nz_01 (by decide)) rfl rfl (leafZ h (wr_n (wr_lit rfl)) (by decide))
      · replace h := ite_f h c3
        refine j_iloadn (k := 3) (D_Hall_find 11 rfl) rfl rfl ?_
        refine j_iconst (v := (-1)) (D_Hall_find 12 rfl) rfl ?_
        refine j_ic_eq (tgt := 41) (D_Hall_find 13 rfl) rfl (ha3) (wr_lit rfl) (fun c4 => ?_) (fun c4 => ?_)
        · replace h := ite_t h c4
          refine j_loc [0, 1, 2, 3] rfl ?_
          exact s_Hall_find_L41 (ha1) (ha2) (ha3) h
        · replace h := ite_f h c4
          refine j_aloadn (k := 0) (D_Hall_find 14 rfl) rfl rfl ?_
          refine j_getR rfl fa_Hall_19 kd_0 lc_0 (by decide) rfl fx_0_1 (by decide) (D_Hall_find 15 rfl) ?_
          refine j_iloadn (k := 3) (D_Hall_find 16 rfl) rfl rfl ?_
          obtain ⟨q3, e3, h⟩ := Option.bind_eq_some_iff.mp h
          refine j_cVz (c_Lands_has (ha3) e3) rfl lk_Hall_150 mok_Lands_has kd_9 lc_9 rfl (by decide) rfl rfl (Nat.le_of_ble_eq_true rfl) (D_Hall_find 17 rfl) (fun w3 bw3 => ?_)
          refine j_if_ne (tgt := 41) (D_Hall_find 18 rfl) rfl (w3) (fun c5 => ?_) (fun c5 => ?_)
          · replace h := ite_f h c5
            refine j_loc [0, 1, 2, 3] rfl ?_
            exact s_Hall_find_L41 (ha1) (ha2) (ha3) h
          · replace h := ite_t h c5
            refine j_iconst (v := 0) (D_Hall_find 19 rfl) rfl ?_
            exact j_zret (D_Hall_find 20 rfl) rfl (wr_lit rfl) (nz_01 (by decide)) rfl rfl (leafZ h (wr_n (wr_lit rfl)) (by decide))
abbrev M_Model_isJury : MI := (⟨"InquestHallModel", "isJury", "(I)Z"⟩, prog_14_method_97_code, 1, (some .boolean))
theorem cw_Model_isJury : Cond.code M_Model_isJury.1 M_Model_isJury.2.1 M_Model_isJury.2.2.1 M_Model_isJury.2.2.2 ∈ TS := mTS (List.mem_of_getElem? (i := 1984) (by decide +kernel)) (by decide +kernel)
def tb_Model_isJury : List (Nat × Instr × Nat) := [(0, .iload_n 0, 1), (1, .iconst 0, 1), (2, .bipush 9, 2), (4, .invokestatic 188, 3), (7, .ireturn, 1)]
theorem D_Model_isJury (i : Nat) {pc len : Nat} {ins : Instr} (hi : tb_Model_isJury[i]? = some (pc, ins, len)) : decode M_Model_isJury.2.1 pc = .ok (ins, len) := dec_of (by decide +kernel) i hi
def f_Model_isJury (G : GS) (a0 : Int) : Option (Int) :=
  (f_Model_isIn G a0 0 9).bind fun q1 =>
  some q1
theorem c_Model_isJury {X : XT} {G : GS} {a0 : Int} {r : Int} (ha0 : wr a0 = a0) (h : f_Model_isJury G a0 = some r) : Call X true 7 0 0 M_Model_isJury [vi a0] NC G (Rz r G) := by
  refine Call_of_J cw_Model_isJury (by decide +kernel) (Nat.le_of_ble_eq_true rfl) ?_
  unfold f_Model_isJury at h
  show J X true 7 0 0 M_Model_isJury (Rz r G) NC 0 0 0 [(0, vi a0)] [] G
  refine j_iloadn (k := 0) (D_Model_isJury 0 rfl) rfl rfl ?_
  refine j_iconst (v := 0) (D_Model_isJury 1 rfl) rfl ?_
  refine j_bipush (v := 9) (D_Model_isJury 2 rfl) rfl ?_
  obtain ⟨q1, e1, h⟩ := Option.bind_eq_some_iff.mp h
  refine j_cSz (c_Model_isIn (ha0) (wr_lit rfl) (wr_lit rfl) e1) rfl lk_Model_188 sok_Model_isIn (by decide) rfl rfl (Nat.le_of_ble_eq_true rfl) (D_Model_isJury 3 rfl) (fun w1 bw1 => ?_)
  exact j_zret (D_Model_isJury 4 rfl) rfl (w1) (nz_01 bw1) rfl rfl (leafZo h (wr_n (w1)) bw1)
abbrev M_Model_find : MI := (⟨"InquestHallModel", "find", "(III)Z"⟩, prog_14_method_98_code, 4, (some .boolean))
theorem cw_Model_find : Cond.code M_Model_find.1 M_Model_find.2.1 M_Model_find.2.2.1 M_Model_find.2.2.2 ∈ TS := mTS (List.mem_of_getElem? (i := 1981) (by decide +kernel)) (by decide +kernel)
theorem lk_Model_570 : Cond.methodLink "InquestHallModel" 570 M_Model_isJury.1 ∈ TS := mTS (List.mem_of_getElem? (i := 1982) (by decide +kernel)) (by decide +kernel)
theorem sok_Model_isJury : SOK M_Model_isJury 1 := ⟨mTS (List.mem_of_getElem? (i := 1983) (by decide +kernel)) (by decide +kernel), mTS (List.mem_of_getElem? (i := 139) (by decide +kernel)) (by decide +kernel), cw_Model_isJury, ⟨by decide, by decide, by decide +kernel⟩, by decide +kernel, by decide⟩
theorem fa_Model_175 : FA "InquestHallModel" 175 12 83 true (.array .int) := ⟨_, _, _, _, ok_Model, by decide, mTS (List.mem_of_getElem? (i := 1384) (by decide +kernel)) (by decide +kernel), rfl, rfl⟩
theorem fx_81_83 {G : GS} (w : WF true NC G) : G.2.2 81 83 = 135 := w.2 rfl (81, 83, 135) (by decide)
theorem kd_135 : kd 135 = (0, 120) := rfl
theorem lc_135 : 135 < NC := by decide
def tb_Model_find : List (Nat × Instr × Nat) := [(0, .iload_n 1, 1), (1, .invokestatic 570, 3), (4, .ifCond .eq 29, 3), (7, .aload_n 0, 1), (8, .iload_n 2, 1), (9, .invokevirtual 219, 3), (12, .ifCond .eq 21, 3), (15, .iload_n 3, 1), (16, .iconst (-1), 1), (17, .if_icmp .eq 11, 3), (20, .aload_n 0, 1), (21, .iload_n 3, 1), (22, .invokevirtual 219, 3), (25, .ifCond .eq 8, 3), (28, .iload_n 2, 1), (29, .iload_n 3, 1), (30, .if_icmp .ne 5, 3), (33, .iconst 0, 1), (34, .ireturn, 1), (35, .aload_n 0, 1), (36, .getfield 175, 3), (39, .bipush 12, 2), (41, .iload_n 1, 1), (42, .imul, 1), (43, .iload_n 2, 1), (44, .iadd, 1), (45, .iload_n 3, 1), (46, .iastore, 1), (47, .aload_n 0, 1), (48, .iconst 0, 1), (49, .putfield 215, 3), (52, .iconst 1, 1), (53, .ireturn, 1)]
theorem D_Model_find (i : Nat) {pc len : Nat} {ins : Instr} (hi : tb_Model_find[i]? = some (pc, ins, len)) : decode M_Model_find.2.1 pc = .ok (ins, len) := dec_of (by decide +kernel) i hi
def f_Model_find_L28 (G : GS) (x1 : Int) (x2 : Int) (x3 : Int) : Option (Int × GS) :=
  if x2 = x3 then
    some (0, G)
  else
    gd (0 ≤ wr ((12 * x1) + x2) ∧ wr ((12 * x1) + x2) < 120) <|
    wG (si G 135 (wr ((12 * x1) + x2)).toNat x3) fun G1 =>
    wG (si G1 81 85 0) fun G2 =>
    some (1, G2)
theorem s_Model_find_L28 {X : XT} {r : Int × GS} : ∀ {G : GS} {x1 : Int} {x2 : Int} {x3 : Int}, wr x1 = x1 → wr x2 = x2 → wr x3 = x3 → f_Model_find_L28 G x1 x2 x3 = some r → J X true 8 0 0 M_Model_find (Rz r.1 r.2) NC 0 0 28 [(0, rf X 81), (1, vi x1), (2, vi x2), (3, vi x3)] [] G := by
  intro G x1 x2 x3 hx1 hx2 hx3 h
  unfold f_Model_find_L28 at h
  refine j_iloadn (k := 2) (D_Model_find 14 rfl) rfl rfl ?_
  refine j_iloadn (k := 3) (D_Model_find 15 rfl) rfl rfl ?_
  refine j_ic_ne (tgt := 35) (D_Model_find 16 rfl) rfl (hx2) (hx3) (fun c1 => ?_) (fun c1 => ?_)
  · replace h := ite_f h c1
    refine j_aloadn (k := 0) (D_Model_find 19 rfl) rfl rfl ?_
    refine j_getR rfl fa_Model_175 kd_81 lc_81 (by decide) rfl fx_81_83 (by decide) (D_Model_find 20 rfl) ?_
    refine j_bipush (v := 12) (D_Model_find 21 rfl) rfl ?_
    refine j_iloadn (k := 1) (D_Model_find 22 rfl) rfl rfl ?_
    refine j_imul (D_Model_find 23 rfl) ?_
    refine j_iloadn (k := 2) (D_Model_find 24 rfl) rfl rfl ?_
    refine j_iadd (D_Model_find 25 rfl) ?_
    refine j_iloadn (k := 3) (D_Model_find 26 rfl) rfl rfl ?_
    have g1 := gd_c h
    replace h := gd_s h
    refine j_iast (NI := 120) (D_Model_find 27 rfl) kd_135 lc_135 (rfl) rfl g1.1 g1.2 ?_
    refine j_gen (fun G1 e1 => ?_)
    replace h := wG_at h e1
    refine j_aloadn (k := 0) (D_Model_find 28 rfl) rfl rfl ?_
    refine j_iconst (v := 0) (D_Model_find 29 rfl) rfl ?_
    refine j_putZ rfl fa_Model_215 kd_81 lc_81 (by decide) rfl (wr_lit rfl) (by decide) (D_Model_find 30 rfl) ?_
    refine j_gen (fun G2 e2 => ?_)
    replace h := wG_at h e2
    refine j_iconst (v := 1) (D_Model_find 31 rfl) rfl ?_
    exact j_zret (D_Model_find 32 rfl) rfl (wr_lit rfl) (nz_01 (by decide)) rfl rfl (leafZ h (wr_n (wr_lit rfl)) (by decide))
  · replace h := ite_t h c1
    refine j_iconst (v := 0) (D_Model_find 17 rfl) rfl ?_
    exact j_zret (D_Model_find 18 rfl) rfl (wr_lit rfl) (nz_01 (by decide)) rfl rfl (leafZ h (wr_n (wr_lit rfl)) (by decide))
def f_Model_find (G : GS) (a1 : Int) (a2 : Int) (a3 : Int) : Option (Int × GS) :=
  (f_Model_isJury G a1).bind fun q1 =>
  if q1 = 0 then
    some (0, G)
  else
    (f_Model_isLand G a2).bind fun q2 =>
    if q2 = 0 then
      some (0, G)
    else
      if a3 = (-1) then
        f_Model_find_L28 G a1 a2 a3
      else
        (f_Model_isLand G a3).bind fun q3 =>
        if q3 = 0 then
          some (0, G)
        else
          f_Model_find_L28 G a1 a2 a3
theorem c_Model_find {X : XT} {G : GS} {a1 : Int} {a2 : Int} {a3 : Int} {r : Int × GS} (ha1 : wr a1 = a1) (ha2 : wr a2 = a2) (ha3 : wr a3 = a3) (h : f_Model_find G a1 a2 a3 = some r) : Call X true 8 0 0 M_Model_find [rf X 81, vi a1, vi a2, vi a3] NC G (Rz r.1 r.2) := by
  refine Call_of_J cw_Model_find (by decide +kernel) (Nat.le_of_ble_eq_true rfl) ?_
  unfold f_Model_find at h
  show J X true 8 0 0 M_Model_find (Rz r.1 r.2) NC 0 0 0 [(0, rf X 81), (1, vi a1), (2, vi a2), (3, vi a3)] [] G
  refine j_iloadn (k := 1) (D_Model_find 0 rfl) rfl rfl ?_
  obtain ⟨q1, e1, h⟩ := Option.bind_eq_some_iff.mp h
  refine j_cSz (c_Model_isJury (ha1) e1) rfl lk_Model_570 sok_Model_isJury (by decide) rfl rfl (Nat.le_of_ble_eq_true rfl) (D_Model_find 1 rfl) (fun w1 bw1 => ?_)
  refine j_if_eq (tgt := 33) (D_Model_find 2 rfl) rfl (w1) (fun c1 => ?_) (fun c1 => ?_)
  · replace h := ite_t h c1
    refine j_iconst (v := 0) (D_Model_find 17 rfl) rfl ?_
    exact j_zret (D_Model_find 18 rfl) rfl (wr_lit rfl) (nz_01 (by decide)) rfl rfl (leafZ h (wr_n (wr_lit rfl)) (by decide))
  · replace h := ite_f h c1
    refine j_aloadn (k := 0) (D_Model_find 3 rfl) rfl rfl ?_
    refine j_iloadn (k := 2) (D_Model_find 4 rfl) rfl rfl ?_
    obtain ⟨q2, e2, h⟩ := Option.bind_eq_some_iff.mp h
    refine j_cVz (c_Model_isLand (ha2) e2) rfl lk_Model_219 mok_Model_isLand kd_81 lc_81 rfl (by decide) rfl rfl (Nat.le_of_ble_eq_true rfl) (D_Model_find 5 rfl) (fun w2 bw2 => ?_)
    refine j_if_eq (tgt := 33) (D_Model_find 6 rfl) rfl (w2) (fun c2 => ?_) (fun c2 => ?_)
    · replace h := ite_t h c2
      refine j_iconst (v := 0) (D_Model_find 17 rfl) rfl ?_
      exact j_zret (D_Model_find 18 rfl) rfl (wr_lit rfl) (nz_01 (by decide)) rfl rfl (leafZ h (wr_n (wr_lit rfl)) (by decide))
    · replace h := ite_f h c2
      refine j_iloadn (k := 3) (D_Model_find 7 rfl) rfl rfl ?_
      refine j_iconst (v := (-1)) (D_Model_find 8 rfl) rfl ?_
      refine j_ic_eq (tgt := 28) (D_Model_find 9 rfl) rfl (ha3) (wr_lit rfl) (fun c3 => ?_) (fun c3 => ?_)
      · replace h := ite_t h c3
        refine j_loc [0, 1, 2, 3] rfl ?_
        exact s_Model_find_L28 (ha1) (ha2) (ha3) h
      · replace h := ite_f h c3
        refine j_aloadn (k := 0) (D_Model_find 10 rfl) rfl rfl ?_
        refine j_iloadn (k := 3) (D_Model_find 11 rfl) rfl rfl ?_
        obtain ⟨q3, e3, h⟩ := Option.bind_eq_some_iff.mp h
        refine j_cVz (c_Model_isLand (ha3) e3) rfl lk_Model_219 mok_Model_isLand kd_81 lc_81 rfl (by decide) rfl rfl (Nat.le_of_ble_eq_true rfl) (D_Model_find 12 rfl) (fun w3 bw3 => ?_)
        refine j_if_eq (tgt := 33) (D_Model_find 13 rfl) rfl (w3) (fun c4 => ?_) (fun c4 => ?_)
        · replace h := ite_t h c4
          refine j_iconst (v := 0) (D_Model_find 17 rfl) rfl ?_
          exact j_zret (D_Model_find 18 rfl) rfl (wr_lit rfl) (nz_01 (by decide)) rfl rfl (leafZ h (wr_n (wr_lit rfl)) (by decide))
        · replace h := ite_f h c4
          refine j_loc [0, 1, 2, 3] rfl ?_
          exact s_Model_find_L28 (ha1) (ha2) (ha3) h
abbrev M_Juries_hasSaid : MI := (⟨"InquestHall$Juries", "hasSaid", "(II)Z"⟩, prog_3_method_4_code, 3, (some .boolean))
theorem cw_Juries_hasSaid : Cond.code M_Juries_hasSaid.1 M_Juries_hasSaid.2.1 M_Juries_hasSaid.2.2.1 M_Juries_hasSaid.2.2.2 ∈ TS := mTS (List.mem_of_getElem? (i := 1255) (by decide +kernel)) (by decide +kernel)
def tb_Juries_hasSaid : List (Nat × Instr × Nat) := [(0, .aload_n 0, 1), (1, .getfield 13, 3), (4, .iload_n 1, 1), (5, .bipush 12, 2), (7, .imul, 1), (8, .iload_n 2, 1), (9, .iadd, 1), (10, .iaload, 1), (11, .bipush (-2), 2), (13, .if_icmp .eq 7, 3), (16, .iconst 1, 1), (17, .goto 4, 3), (20, .iconst 0, 1), (21, .ireturn, 1)]
theorem D_Juries_hasSaid (i : Nat) {pc len : Nat} {ins : Instr} (hi : tb_Juries_hasSaid[i]? = some (pc, ins, len)) : decode M_Juries_hasSaid.2.1 pc = .ok (ins, len) := dec_of (by decide +kernel) i hi
def f_Juries_hasSaid (G : GS) (a1 : Int) (a2 : Int) : Option (Int) :=
  gd (0 ≤ wr ((a1 * 12) + a2) ∧ wr ((a1 * 12) + a2) < 120) <|
  if gi G 46 (wr ((a1 * 12) + a2)).toNat = (-2) then
    some 0
  else
    some 1
theorem c_Juries_hasSaid {X : XT} {G : GS} {a1 : Int} {a2 : Int} {r : Int} (ha1 : wr a1 = a1) (ha2 : wr a2 = a2) (h : f_Juries_hasSaid G a1 a2 = some r) : Call X true 6 0 0 M_Juries_hasSaid [rf X 45, vi a1, vi a2] NC G (Rz r G) := by
  refine Call_of_J cw_Juries_hasSaid (by decide +kernel) (Nat.le_of_ble_eq_true rfl) ?_
  unfold f_Juries_hasSaid at h
  show J X true 6 0 0 M_Juries_hasSaid (Rz r G) NC 0 0 0 [(0, rf X 45), (1, vi a1), (2, vi a2)] [] G
  refine j_aloadn (k := 0) (D_Juries_hasSaid 0 rfl) rfl rfl ?_
  refine j_getR rfl fa_Juries_13 kd_45 lc_45 (by decide) rfl fx_45_0 (by decide) (D_Juries_hasSaid 1 rfl) ?_
  refine j_iloadn (k := 1) (D_Juries_hasSaid 2 rfl) rfl rfl ?_
  refine j_bipush (v := 12) (D_Juries_hasSaid 3 rfl) rfl ?_
  refine j_imul (D_Juries_hasSaid 4 rfl) ?_
  refine j_iloadn (k := 2) (D_Juries_hasSaid 5 rfl) rfl rfl ?_
  refine j_iadd (D_Juries_hasSaid 6 rfl) ?_
  have g1 := gd_c h
  replace h := gd_s h
  refine j_iald (NI := 120) (D_Juries_hasSaid 7 rfl) kd_46 lc_46 (rfl) rfl g1.1 g1.2 ?_
  refine j_bipush (v := (-2)) (D_Juries_hasSaid 8 rfl) rfl ?_
  refine j_ic_eq (tgt := 20) (D_Juries_hasSaid 9 rfl) rfl (wr_gi _ _ _) (wr_lit rfl) (fun c1 => ?_) (fun c1 => ?_)
  · replace h := ite_t h c1
    refine j_iconst (v := 0) (D_Juries_hasSaid 12 rfl) rfl ?_
    exact j_zret (D_Juries_hasSaid 13 rfl) rfl (wr_lit rfl) (nz_01 (by decide)) rfl rfl (leafZo h (wr_n (wr_lit rfl)) (by decide))
  · replace h := ite_f h c1
    refine j_iconst (v := 1) (D_Juries_hasSaid 10 rfl) rfl ?_
    refine j_goto (tgt := 21) (D_Juries_hasSaid 11 rfl) rfl ?_
    exact j_zret (D_Juries_hasSaid 13 rfl) rfl (wr_lit rfl) (nz_01 (by decide)) rfl rfl (leafZo h (wr_n (wr_lit rfl)) (by decide))
abbrev M_Hall_unsay : MI := (⟨"InquestHall", "unsay", "(II)Z"⟩, prog_1_method_32_code, 3, (some .boolean))
theorem cw_Hall_unsay : Cond.code M_Hall_unsay.1 M_Hall_unsay.2.1 M_Hall_unsay.2.2.1 M_Hall_unsay.2.2.2 ∈ TS := mTS (List.mem_of_getElem? (i := 1251) (by decide +kernel)) (by decide +kernel)
theorem lk_Hall_334 : Cond.methodLink "InquestHall" 334 M_Juries_hasSaid.1 ∈ TS := mTS (List.mem_of_getElem? (i := 1252) (by decide +kernel)) (by decide +kernel)
theorem mok_Juries_hasSaid : MOK M_Juries_hasSaid 2 := ⟨mTS (List.mem_of_getElem? (i := 1253) (by decide +kernel)) (by decide +kernel), mTS (List.mem_of_getElem? (i := 1254) (by decide +kernel)) (by decide +kernel), mTS (List.mem_of_getElem? (i := 137) (by decide +kernel)) (by decide +kernel), cw_Juries_hasSaid, ⟨by decide, by decide, by decide +kernel⟩, by decide +kernel, by decide⟩
def tb_Hall_unsay : List (Nat × Instr × Nat) := [(0, .iload_n 1, 1), (1, .invokestatic 330, 3), (4, .ifCond .eq 26, 3), (7, .aload_n 0, 1), (8, .getfield 19, 3), (11, .iload_n 2, 1), (12, .invokevirtual 150, 3), (15, .ifCond .eq 15, 3), (18, .aload_n 0, 1), (19, .getfield 81, 3), (22, .iload_n 1, 1), (23, .iload_n 2, 1), (24, .invokevirtual 334, 3), (27, .ifCond .ne 5, 3), (30, .iconst 0, 1), (31, .ireturn, 1), (32, .aload_n 0, 1), (33, .getfield 81, 3), (36, .iload_n 1, 1), (37, .iload_n 2, 1), (38, .bipush (-2), 2), (40, .invokevirtual 331, 3), (43, .iconst 1, 1), (44, .ireturn, 1)]
theorem D_Hall_unsay (i : Nat) {pc len : Nat} {ins : Instr} (hi : tb_Hall_unsay[i]? = some (pc, ins, len)) : decode M_Hall_unsay.2.1 pc = .ok (ins, len) := dec_of (by decide +kernel) i hi
def f_Hall_unsay (G : GS) (a1 : Int) (a2 : Int) : Option (Int × GS) :=
  (f_Juries_has G a1).bind fun q1 =>
  if q1 = 0 then
    some (0, G)
  else
    (f_Lands_has G a2).bind fun q2 =>
    if q2 = 0 then
      some (0, G)
    else
      (f_Juries_hasSaid G a1 a2).bind fun q3 =>
      if q3 = 0 then
        some (0, G)
      else
        (f_Juries_say G a1 a2 (-2)).bind fun q4 =>
        some (1, q4)
theorem c_Hall_unsay {X : XT} {G : GS} {a1 : Int} {a2 : Int} {r : Int × GS} (ha1 : wr a1 = a1) (ha2 : wr a2 = a2) (h : f_Hall_unsay G a1 a2 = some r) : Call X true 7 0 0 M_Hall_unsay [rf X 0, vi a1, vi a2] NC G (Rz r.1 r.2) := by
  refine Call_of_J cw_Hall_unsay (by decide +kernel) (Nat.le_of_ble_eq_true rfl) ?_
  unfold f_Hall_unsay at h
  show J X true 7 0 0 M_Hall_unsay (Rz r.1 r.2) NC 0 0 0 [(0, rf X 0), (1, vi a1), (2, vi a2)] [] G
  refine j_iloadn (k := 1) (D_Hall_unsay 0 rfl) rfl rfl ?_
  obtain ⟨q1, e1, h⟩ := Option.bind_eq_some_iff.mp h
  refine j_cSz (c_Juries_has (ha1) e1) rfl lk_Hall_330 sok_Juries_has (by decide) rfl rfl (Nat.le_of_ble_eq_true rfl) (D_Hall_unsay 1 rfl) (fun w1 bw1 => ?_)
  refine j_if_eq (tgt := 30) (D_Hall_unsay 2 rfl) rfl (w1) (fun c1 => ?_) (fun c1 => ?_)
  · replace h := ite_t h c1
    refine j_iconst (v := 0) (D_Hall_unsay 14 rfl) rfl ?_
    exact j_zret (D_Hall_unsay 15 rfl) rfl (wr_lit rfl) (nz_01 (by decide)) rfl rfl (leafZ h (wr_n (wr_lit rfl)) (by decide))
  · replace h := ite_f h c1
    refine j_aloadn (k := 0) (D_Hall_unsay 3 rfl) rfl rfl ?_
    refine j_getR rfl fa_Hall_19 kd_0 lc_0 (by decide) rfl fx_0_1 (by decide) (D_Hall_unsay 4 rfl) ?_
    refine j_iloadn (k := 2) (D_Hall_unsay 5 rfl) rfl rfl ?_
    obtain ⟨q2, e2, h⟩ := Option.bind_eq_some_iff.mp h
    refine j_cVz (c_Lands_has (ha2) e2) rfl lk_Hall_150 mok_Lands_has kd_9 lc_9 rfl (by decide) rfl rfl (Nat.le_of_ble_eq_true rfl) (D_Hall_unsay 6 rfl) (fun w2 bw2 => ?_)
    refine j_if_eq (tgt := 30) (D_Hall_unsay 7 rfl) rfl (w2) (fun c2 => ?_) (fun c2 => ?_)
    · replace h := ite_t h c2
      refine j_iconst (v := 0) (D_Hall_unsay 14 rfl) rfl ?_
      exact j_zret (D_Hall_unsay 15 rfl) rfl (wr_lit rfl) (nz_01 (by decide)) rfl rfl (leafZ h (wr_n (wr_lit rfl)) (by decide))
    · replace h := ite_f h c2
      refine j_aloadn (k := 0) (D_Hall_unsay 8 rfl) rfl rfl ?_
      refine j_getR rfl fa_Hall_81 kd_0 lc_0 (by decide) rfl fx_0_9 (by decide) (D_Hall_unsay 9 rfl) ?_
      refine j_iloadn (k := 1) (D_Hall_unsay 10 rfl) rfl rfl ?_
      refine j_iloadn (k := 2) (D_Hall_unsay 11 rfl) rfl rfl ?_
      obtain ⟨q3, e3, h⟩ := Option.bind_eq_some_iff.mp h
      refine j_cVz (c_Juries_hasSaid (ha1) (ha2) e3) rfl lk_Hall_334 mok_Juries_hasSaid kd_45 lc_45 rfl (by decide) rfl rfl (Nat.le_of_ble_eq_true rfl) (D_Hall_unsay 12 rfl) (fun w3 bw3 => ?_)
      refine j_if_ne (tgt := 32) (D_Hall_unsay 13 rfl) rfl (w3) (fun c3 => ?_) (fun c3 => ?_)
      · replace h := ite_f h c3
        refine j_aloadn (k := 0) (D_Hall_unsay 16 rfl) rfl rfl ?_
        refine j_getR rfl fa_Hall_81 kd_0 lc_0 (by decide) rfl fx_0_9 (by decide) (D_Hall_unsay 17 rfl) ?_
        refine j_iloadn (k := 1) (D_Hall_unsay 18 rfl) rfl rfl ?_
        refine j_iloadn (k := 2) (D_Hall_unsay 19 rfl) rfl rfl ?_
        refine j_bipush (v := (-2)) (D_Hall_unsay 20 rfl) rfl ?_
        obtain ⟨q4, e4, h⟩ := Option.bind_eq_some_iff.mp h
        refine j_cVv (c_Juries_say (ha1) (ha2) (wr_lit rfl) e4) rfl lk_Hall_331 mok_Juries_say kd_45 lc_45 rfl (by decide) rfl rfl (Nat.le_of_ble_eq_true rfl) (D_Hall_unsay 21 rfl) ?_
        refine j_iconst (v := 1) (D_Hall_unsay 22 rfl) rfl ?_
        exact j_zret (D_Hall_unsay 23 rfl) rfl (wr_lit rfl) (nz_01 (by decide)) rfl rfl (leafZ h (wr_n (wr_lit rfl)) (by decide))
      · replace h := ite_t h c3
        refine j_iconst (v := 0) (D_Hall_unsay 14 rfl) rfl ?_
        exact j_zret (D_Hall_unsay 15 rfl) rfl (wr_lit rfl) (nz_01 (by decide)) rfl rfl (leafZ h (wr_n (wr_lit rfl)) (by decide))
abbrev M_Model_unsay : MI := (⟨"InquestHallModel", "unsay", "(II)Z"⟩, prog_14_method_99_code, 3, (some .boolean))
theorem cw_Model_unsay : Cond.code M_Model_unsay.1 M_Model_unsay.2.1 M_Model_unsay.2.2.1 M_Model_unsay.2.2.2 ∈ TS := mTS (List.mem_of_getElem? (i := 1988) (by decide +kernel)) (by decide +kernel)
def tb_Model_unsay : List (Nat × Instr × Nat) := [(0, .iload_n 1, 1), (1, .invokestatic 570, 3), (4, .ifCond .eq 27, 3), (7, .aload_n 0, 1), (8, .iload_n 2, 1), (9, .invokevirtual 219, 3), (12, .ifCond .eq 19, 3), (15, .aload_n 0, 1), (16, .getfield 175, 3), (19, .bipush 12, 2), (21, .iload_n 1, 1), (22, .imul, 1), (23, .iload_n 2, 1), (24, .iadd, 1), (25, .iaload, 1), (26, .bipush (-2), 2), (28, .if_icmp .ne 5, 3), (31, .iconst 0, 1), (32, .ireturn, 1), (33, .aload_n 0, 1), (34, .getfield 175, 3), (37, .bipush 12, 2), (39, .iload_n 1, 1), (40, .imul, 1), (41, .iload_n 2, 1), (42, .iadd, 1), (43, .bipush (-2), 2), (45, .iastore, 1), (46, .aload_n 0, 1), (47, .iconst 0, 1), (48, .putfield 215, 3), (51, .iconst 1, 1), (52, .ireturn, 1)]
theorem D_Model_unsay (i : Nat) {pc len : Nat} {ins : Instr} (hi : tb_Model_unsay[i]? = some (pc, ins, len)) : decode M_Model_unsay.2.1 pc = .ok (ins, len) := dec_of (by decide +kernel) i hi
def f_Model_unsay (G : GS) (a1 : Int) (a2 : Int) : Option (Int × GS) :=
  (f_Model_isJury G a1).bind fun q1 =>
  if q1 = 0 then
    some (0, G)
  else
    (f_Model_isLand G a2).bind fun q2 =>
    if q2 = 0 then
      some (0, G)
    else
      gd (0 ≤ wr ((12 * a1) + a2) ∧ wr ((12 * a1) + a2) < 120) <|
      if gi G 135 (wr ((12 * a1) + a2)).toNat = (-2) then
        some (0, G)
      else
        gd (0 ≤ wr ((12 * a1) + a2) ∧ wr ((12 * a1) + a2) < 120) <|
        wG (si G 135 (wr ((12 * a1) + a2)).toNat (-2)) fun G1 =>
        wG (si G1 81 85 0) fun G2 =>
        some (1, G2)
theorem c_Model_unsay {X : XT} {G : GS} {a1 : Int} {a2 : Int} {r : Int × GS} (ha1 : wr a1 = a1) (ha2 : wr a2 = a2) (h : f_Model_unsay G a1 a2 = some r) : Call X true 8 0 0 M_Model_unsay [rf X 81, vi a1, vi a2] NC G (Rz r.1 r.2) := by
  refine Call_of_J cw_Model_unsay (by decide +kernel) (Nat.le_of_ble_eq_true rfl) ?_
  unfold f_Model_unsay at h
  show J X true 8 0 0 M_Model_unsay (Rz r.1 r.2) NC 0 0 0 [(0, rf X 81), (1, vi a1), (2, vi a2)] [] G
  refine j_iloadn (k := 1) (D_Model_unsay 0 rfl) rfl rfl ?_
  obtain ⟨q1, e1, h⟩ := Option.bind_eq_some_iff.mp h
  refine j_cSz (c_Model_isJury (ha1) e1) rfl lk_Model_570 sok_Model_isJury (by decide) rfl rfl (Nat.le_of_ble_eq_true rfl) (D_Model_unsay 1 rfl) (fun w1 bw1 => ?_)
  refine j_if_eq (tgt := 31) (D_Model_unsay 2 rfl) rfl (w1) (fun c1 => ?_) (fun c1 => ?_)
  · replace h := ite_t h c1
    refine j_iconst (v := 0) (D_Model_unsay 17 rfl) rfl ?_
    exact j_zret (D_Model_unsay 18 rfl) rfl (wr_lit rfl) (nz_01 (by decide)) rfl rfl (leafZ h (wr_n (wr_lit rfl)) (by decide))
  · replace h := ite_f h c1
    refine j_aloadn (k := 0) (D_Model_unsay 3 rfl) rfl rfl ?_
    refine j_iloadn (k := 2) (D_Model_unsay 4 rfl) rfl rfl ?_
    obtain ⟨q2, e2, h⟩ := Option.bind_eq_some_iff.mp h
    refine j_cVz (c_Model_isLand (ha2) e2) rfl lk_Model_219 mok_Model_isLand kd_81 lc_81 rfl (by decide) rfl rfl (Nat.le_of_ble_eq_true rfl) (D_Model_unsay 5 rfl) (fun w2 bw2 => ?_)
    refine j_if_eq (tgt := 31) (D_Model_unsay 6 rfl) rfl (w2) (fun c2 => ?_) (fun c2 => ?_)
    · replace h := ite_t h c2
      refine j_iconst (v := 0) (D_Model_unsay 17 rfl) rfl ?_
      exact j_zret (D_Model_unsay 18 rfl) rfl (wr_lit rfl) (nz_01 (by decide)) rfl rfl (leafZ h (wr_n (wr_lit rfl)) (by decide))
    · replace h := ite_f h c2
      refine j_aloadn (k := 0) (D_Model_unsay 7 rfl) rfl rfl ?_
      refine j_getR rfl fa_Model_175 kd_81 lc_81 (by decide) rfl fx_81_83 (by decide) (D_Model_unsay 8 rfl) ?_
      refine j_bipush (v := 12) (D_Model_unsay 9 rfl) rfl ?_
      refine j_iloadn (k := 1) (D_Model_unsay 10 rfl) rfl rfl ?_
      refine j_imul (D_Model_unsay 11 rfl) ?_
      refine j_iloadn (k := 2) (D_Model_unsay 12 rfl) rfl rfl ?_
      refine j_iadd (D_Model_unsay 13 rfl) ?_
      have g1 := gd_c h
      replace h := gd_s h
      refine j_iald (NI := 120) (D_Model_unsay 14 rfl) kd_135 lc_135 (rfl) rfl g1.1 g1.2 ?_
      refine j_bipush (v := (-2)) (D_Model_unsay 15 rfl) rfl ?_
      refine j_ic_ne (tgt := 33) (D_Model_unsay 16 rfl) rfl (wr_gi _ _ _) (wr_lit rfl) (fun c3 => ?_) (fun c3 => ?_)
      · replace h := ite_f h c3
        refine j_aloadn (k := 0) (D_Model_unsay 19 rfl) rfl rfl ?_
        refine j_getR rfl fa_Model_175 kd_81 lc_81 (by decide) rfl fx_81_83 (by decide) (D_Model_unsay 20 rfl) ?_
        refine j_bipush (v := 12) (D_Model_unsay 21 rfl) rfl ?_
        refine j_iloadn (k := 1) (D_Model_unsay 22 rfl) rfl rfl ?_
        refine j_imul (D_Model_unsay 23 rfl) ?_
        refine j_iloadn (k := 2) (D_Model_unsay 24 rfl) rfl rfl ?_
        refine j_iadd (D_Model_unsay 25 rfl) ?_
        refine j_bipush (v := (-2)) (D_Model_unsay 26 rfl) rfl ?_
        have g2 := gd_c h
        replace h := gd_s h
        refine j_iast (NI := 120) (D_Model_unsay 27 rfl) kd_135 lc_135 (rfl) rfl g2.1 g2.2 ?_
        refine j_gen (fun G1 e3 => ?_)
        replace h := wG_at h e3
        refine j_aloadn (k := 0) (D_Model_unsay 28 rfl) rfl rfl ?_
        refine j_iconst (v := 0) (D_Model_unsay 29 rfl) rfl ?_
        refine j_putZ rfl fa_Model_215 kd_81 lc_81 (by decide) rfl (wr_lit rfl) (by decide) (D_Model_unsay 30 rfl) ?_
        refine j_gen (fun G2 e4 => ?_)
        replace h := wG_at h e4
        refine j_iconst (v := 1) (D_Model_unsay 31 rfl) rfl ?_
        exact j_zret (D_Model_unsay 32 rfl) rfl (wr_lit rfl) (nz_01 (by decide)) rfl rfl (leafZ h (wr_n (wr_lit rfl)) (by decide))
      · replace h := ite_t h c3
        refine j_iconst (v := 0) (D_Model_unsay 17 rfl) rfl ?_
        exact j_zret (D_Model_unsay 18 rfl) rfl (wr_lit rfl) (nz_01 (by decide)) rfl rfl (leafZ h (wr_n (wr_lit rfl)) (by decide))
abbrev M_Juries_areUnlike : MI := (⟨"InquestHall$Juries", "areUnlike", "(II)Z"⟩, prog_3_method_7_code, 6, (some .boolean))
theorem cw_Juries_areUnlike : Cond.code M_Juries_areUnlike.1 M_Juries_areUnlike.2.1 M_Juries_areUnlike.2.2.1 M_Juries_areUnlike.2.2.2 ∈ TS := mTS (List.mem_of_getElem? (i := 1271) (by decide +kernel)) (by decide +kernel)
def tb_Juries_areUnlike : List (Nat × Instr × Nat) := [(0, .iconst 0, 1), (1, .istore_n 3, 1), (2, .iload_n 3, 1), (3, .bipush 12, 2), (5, .if_icmp .ge 58, 3), (8, .aload_n 0, 1), (9, .getfield 13, 3), (12, .iload_n 1, 1), (13, .bipush 12, 2), (15, .imul, 1), (16, .iload_n 3, 1), (17, .iadd, 1), (18, .iaload, 1), (19, .istore 4, 2), (21, .aload_n 0, 1), (22, .getfield 13, 3), (25, .iload_n 2, 1), (26, .bipush 12, 2), (28, .imul, 1), (29, .iload_n 3, 1), (30, .iadd, 1), (31, .iaload, 1), (32, .istore 5, 2), (34, .iload 4, 2), (36, .bipush (-2), 2), (38, .if_icmp .eq 19, 3), (41, .iload 5, 2), (43, .bipush (-2), 2), (45, .if_icmp .eq 12, 3), (48, .iload 4, 2), (50, .iload 5, 2), (52, .if_icmp .eq 5, 3), (55, .iconst 1, 1), (56, .ireturn, 1), (57, .iinc 3 1, 3), (60, .goto (-58), 3), (63, .iconst 0, 1), (64, .ireturn, 1)]
theorem D_Juries_areUnlike (i : Nat) {pc len : Nat} {ins : Instr} (hi : tb_Juries_areUnlike[i]? = some (pc, ins, len)) : decode M_Juries_areUnlike.2.1 pc = .ok (ins, len) := dec_of (by decide +kernel) i hi
def f_Juries_areUnlike_L57 (G : GS) (k2 : Int → Int → Int → Option (Int)) (x1 : Int) (x2 : Int) (x3 : Int) : Option (Int) :=
  k2 x1 x2 (wr (x3 + 1))
theorem s_Juries_areUnlike_L57 {X : XT} {G : GS} {r : Int} {k2 : Int → Int → Int → Option (Int)} (hk2 : ∀ {x1 : Int} {x2 : Int} {x3 : Int} , wr x1 = x1 → wr x2 = x2 → wr x3 = x3 → k2 x1 x2 x3 = some r → J X true 6 0 0 M_Juries_areUnlike (Rz r G) NC 0 0 2 [(0, rf X 45), (1, vi x1), (2, vi x2), (3, vi x3)] [] G) : ∀ {x1 : Int} {x2 : Int} {x3 : Int}, wr x1 = x1 → wr x2 = x2 → wr x3 = x3 → f_Juries_areUnlike_L57 G k2 x1 x2 x3 = some r → J X true 6 0 0 M_Juries_areUnlike (Rz r G) NC 0 0 57 [(0, rf X 45), (1, vi x1), (2, vi x2), (3, vi x3)] [] G := by
  intro x1 x2 x3 hx1 hx2 hx3 h
  unfold f_Juries_areUnlike_L57 at h
  refine j_iinc (k := 3) (L' := [(3, vi (wr (x3 + 1))), (0, rf X 45), (1, vi x1), (2, vi x2)]) (D_Juries_areUnlike 34 rfl) rfl rfl (by decide) rfl ?_
  refine j_goto (tgt := 2) (D_Juries_areUnlike 35 rfl) rfl ?_
  refine j_loc [1, 2, 3, 0] rfl ?_
  exact hk2 (hx1) (hx2) (wr_wr _) h
def f_Juries_areUnlike_L2 (G : GS) : Nat → Int → Int → Int → Option (Int)
  | 0, _, _, _ => none
  | n + 1, x1, x2, x3 =>
    if 12 ≤ x3 then
      some 0
    else
      gd (0 ≤ wr ((x1 * 12) + x3) ∧ wr ((x1 * 12) + x3) < 120) <|
      gd (0 ≤ wr ((x2 * 12) + x3) ∧ wr ((x2 * 12) + x3) < 120) <|
      if gi G 46 (wr ((x1 * 12) + x3)).toNat = (-2) then
        f_Juries_areUnlike_L57 G (f_Juries_areUnlike_L2 G n) x1 x2 x3
      else
        if gi G 46 (wr ((x2 * 12) + x3)).toNat = (-2) then
          f_Juries_areUnlike_L57 G (f_Juries_areUnlike_L2 G n) x1 x2 x3
        else
          if gi G 46 (wr ((x1 * 12) + x3)).toNat = gi G 46 (wr ((x2 * 12) + x3)).toNat then
            f_Juries_areUnlike_L57 G (f_Juries_areUnlike_L2 G n) x1 x2 x3
          else
            some 1
theorem s_Juries_areUnlike_L2 {X : XT} {G : GS} {r : Int} : ∀ (n : Nat) {x1 : Int} {x2 : Int} {x3 : Int}, wr x1 = x1 → wr x2 = x2 → wr x3 = x3 → f_Juries_areUnlike_L2 G n x1 x2 x3 = some r → J X true 6 0 0 M_Juries_areUnlike (Rz r G) NC 0 0 2 [(0, rf X 45), (1, vi x1), (2, vi x2), (3, vi x3)] [] G := by
  intro n
  induction n with
  | zero =>
    intro x1 x2 x3 hx1 hx2 hx3 h
    exact none_some h
  | succ n ih =>
    intro x1 x2 x3 hx1 hx2 hx3 h
    rw [f_Juries_areUnlike_L2] at h
    refine j_iloadn (k := 3) (D_Juries_areUnlike 2 rfl) rfl rfl ?_
    refine j_bipush (v := 12) (D_Juries_areUnlike 3 rfl) rfl ?_
    refine j_ic_ge (tgt := 63) (D_Juries_areUnlike 4 rfl) rfl (hx3) (wr_lit rfl) (fun c1 => ?_) (fun c1 => ?_)
    · replace h := ite_t h c1
      refine j_iconst (v := 0) (D_Juries_areUnlike 36 rfl) rfl ?_
      exact j_zret (D_Juries_areUnlike 37 rfl) rfl (wr_lit rfl) (nz_01 (by decide)) rfl rfl (leafZo h (wr_n (wr_lit rfl)) (by decide))
    · replace h := ite_f h c1
      refine j_aloadn (k := 0) (D_Juries_areUnlike 5 rfl) rfl rfl ?_
      refine j_getR rfl fa_Juries_13 kd_45 lc_45 (by decide) rfl fx_45_0 (by decide) (D_Juries_areUnlike 6 rfl) ?_
      refine j_iloadn (k := 1) (D_Juries_areUnlike 7 rfl) rfl rfl ?_
      refine j_bipush (v := 12) (D_Juries_areUnlike 8 rfl) rfl ?_
      refine j_imul (D_Juries_areUnlike 9 rfl) ?_
      refine j_iloadn (k := 3) (D_Juries_areUnlike 10 rfl) rfl rfl ?_
      refine j_iadd (D_Juries_areUnlike 11 rfl) ?_
      have g1 := gd_c h
      replace h := gd_s h
      refine j_iald (NI := 120) (D_Juries_areUnlike 12 rfl) kd_46 lc_46 (rfl) rfl g1.1 g1.2 ?_
      refine j_istore (L' := [(4, vi (gi G 46 (wr ((x1 * 12) + x3)).toNat)), (0, rf X 45), (1, vi x1), (2, vi x2), (3, vi x3)]) (D_Juries_areUnlike 13 rfl) (wr_gi _ _ _) (by decide) rfl ?_
      refine j_aloadn (k := 1) (D_Juries_areUnlike 14 rfl) rfl rfl ?_
      refine j_getR rfl fa_Juries_13 kd_45 lc_45 (by decide) rfl fx_45_0 (by decide) (D_Juries_areUnlike 15 rfl) ?_
      refine j_iloadn (k := 3) (D_Juries_areUnlike 16 rfl) rfl rfl ?_
      refine j_bipush (v := 12) (D_Juries_areUnlike 17 rfl) rfl ?_
      refine j_imul (D_Juries_areUnlike 18 rfl) ?_
      refine j_iloadn (k := 4) (D_Juries_areUnlike 19 rfl) rfl rfl ?_
      refine j_iadd (D_Juries_areUnlike 20 rfl) ?_
      have g2 := gd_c h
      replace h := gd_s h
      refine j_iald (NI := 120) (D_Juries_areUnlike 21 rfl) kd_46 lc_46 (rfl) rfl g2.1 g2.2 ?_
      refine j_istore (L' := [(5, vi (gi G 46 (wr ((x2 * 12) + x3)).toNat)), (4, vi (gi G 46 (wr ((x1 * 12) + x3)).toNat)), (0, rf X 45), (1, vi x1), (2, vi x2), (3, vi x3)]) (D_Juries_areUnlike 22 rfl) (wr_gi _ _ _) (by decide) rfl ?_
      refine j_iload (k := 1) (D_Juries_areUnlike 23 rfl) rfl ?_
      refine j_bipush (v := (-2)) (D_Juries_areUnlike 24 rfl) rfl ?_
      refine j_ic_eq (tgt := 57) (D_Juries_areUnlike 25 rfl) rfl (wr_gi _ _ _) (wr_lit rfl) (fun c2 => ?_) (fun c2 => ?_)
      · replace h := ite_t h c2
        refine j_loc [2, 3, 4, 5] rfl ?_
        exact s_Juries_areUnlike_L57 ih (hx1) (hx2) (hx3) h
      · replace h := ite_f h c2
        refine j_iload (k := 0) (D_Juries_areUnlike 26 rfl) rfl ?_
        refine j_bipush (v := (-2)) (D_Juries_areUnlike 27 rfl) rfl ?_
        refine j_ic_eq (tgt := 57) (D_Juries_areUnlike 28 rfl) rfl (wr_gi _ _ _) (wr_lit rfl) (fun c3 => ?_) (fun c3 => ?_)
        · replace h := ite_t h c3
          refine j_loc [2, 3, 4, 5] rfl ?_
          exact s_Juries_areUnlike_L57 ih (hx1) (hx2) (hx3) h
        · replace h := ite_f h c3
          refine j_iload (k := 1) (D_Juries_areUnlike 29 rfl) rfl ?_
          refine j_iload (k := 0) (D_Juries_areUnlike 30 rfl) rfl ?_
          refine j_ic_eq (tgt := 57) (D_Juries_areUnlike 31 rfl) rfl (wr_gi _ _ _) (wr_gi _ _ _) (fun c4 => ?_) (fun c4 => ?_)
          · replace h := ite_t h c4
            refine j_loc [2, 3, 4, 5] rfl ?_
            exact s_Juries_areUnlike_L57 ih (hx1) (hx2) (hx3) h
          · replace h := ite_f h c4
            refine j_iconst (v := 1) (D_Juries_areUnlike 32 rfl) rfl ?_
            exact j_zret (D_Juries_areUnlike 33 rfl) rfl (wr_lit rfl) (nz_01 (by decide)) rfl rfl (leafZo h (wr_n (wr_lit rfl)) (by decide))
def f_Juries_areUnlike (G : GS) (a1 : Int) (a2 : Int) : Option (Int) :=
  f_Juries_areUnlike_L2 G FU a1 a2 0
theorem c_Juries_areUnlike {X : XT} {G : GS} {a1 : Int} {a2 : Int} {r : Int} (ha1 : wr a1 = a1) (ha2 : wr a2 = a2) (h : f_Juries_areUnlike G a1 a2 = some r) : Call X true 6 0 0 M_Juries_areUnlike [rf X 45, vi a1, vi a2] NC G (Rz r G) := by
  refine Call_of_J cw_Juries_areUnlike (by decide +kernel) (Nat.le_of_ble_eq_true rfl) ?_
  unfold f_Juries_areUnlike at h
  show J X true 6 0 0 M_Juries_areUnlike (Rz r G) NC 0 0 0 [(0, rf X 45), (1, vi a1), (2, vi a2)] [] G
  refine j_iconst (v := 0) (D_Juries_areUnlike 0 rfl) rfl ?_
  refine j_istoren (L' := [(3, vi 0), (0, rf X 45), (1, vi a1), (2, vi a2)]) (D_Juries_areUnlike 1 rfl) rfl (wr_lit rfl) (by decide) rfl ?_
  refine j_loc [1, 2, 3, 0] rfl ?_
  exact s_Juries_areUnlike_L2 FU (ha1) (ha2) (wr_lit rfl) h
abbrev M_Juries_setAgainst : MI := (⟨"InquestHall$Juries", "setAgainst", "()V"⟩, prog_3_method_6_code, 3, none)
theorem cw_Juries_setAgainst : Cond.code M_Juries_setAgainst.1 M_Juries_setAgainst.2.1 M_Juries_setAgainst.2.2.1 M_Juries_setAgainst.2.2.2 ∈ TS := mTS (List.mem_of_getElem? (i := 1267) (by decide +kernel)) (by decide +kernel)
theorem fa_Juries_17 : FA "InquestHall$Juries" 17 10 1 true (.array .int) := ⟨_, _, _, _, ok_Juries, by decide, mTS (List.mem_of_getElem? (i := 515) (by decide +kernel)) (by decide +kernel), rfl, rfl⟩
theorem fx_45_1 {G : GS} (w : WF true NC G) : G.2.2 45 1 = 47 := w.2 rfl (45, 1, 47) (by decide)
theorem kd_47 : kd 47 = (0, 10) := rfl
theorem lc_47 : 47 < NC := by decide
theorem lk_Juries_54 : Cond.methodLink "InquestHall$Juries" 54 M_Juries_areUnlike.1 ∈ TS := mTS (List.mem_of_getElem? (i := 1268) (by decide +kernel)) (by decide +kernel)
theorem mok_Juries_areUnlike : MOK M_Juries_areUnlike 2 := ⟨mTS (List.mem_of_getElem? (i := 1270) (by decide +kernel)) (by decide +kernel), mTS (List.mem_of_getElem? (i := 56) (by decide +kernel)) (by decide +kernel), mTS (List.mem_of_getElem? (i := 137) (by decide +kernel)) (by decide +kernel), cw_Juries_areUnlike, ⟨by decide, by decide, by decide +kernel⟩, by decide +kernel, by decide⟩
def tb_Juries_setAgainst : List (Nat × Instr × Nat) := [(0, .iconst 0, 1), (1, .istore_n 1, 1), (2, .iload_n 1, 1), (3, .bipush 10, 2), (5, .if_icmp .ge 55, 3), (8, .aload_n 0, 1), (9, .getfield 17, 3), (12, .iload_n 1, 1), (13, .iconst 0, 1), (14, .iastore, 1), (15, .iconst 0, 1), (16, .istore_n 2, 1), (17, .iload_n 2, 1), (18, .bipush 10, 2), (20, .if_icmp .ge 34, 3), (23, .aload_n 0, 1), (24, .getfield 17, 3), (27, .iload_n 1, 1), (28, .dup2, 1), (29, .iaload, 1), (30, .aload_n 0, 1), (31, .iload_n 1, 1), (32, .iload_n 2, 1), (33, .invokevirtual 54, 3), (36, .ifCond .eq 9, 3), (39, .iconst 1, 1), (40, .iload_n 2, 1), (41, .ishl, 1), (42, .goto 4, 3), (45, .iconst 0, 1), (46, .ior, 1), (47, .iastore, 1), (48, .iinc 2 1, 3), (51, .goto (-34), 3), (54, .iinc 1 1, 3), (57, .goto (-55), 3), (60, .return_, 1)]
theorem D_Juries_setAgainst (i : Nat) {pc len : Nat} {ins : Instr} (hi : tb_Juries_setAgainst[i]? = some (pc, ins, len)) : decode M_Juries_setAgainst.2.1 pc = .ok (ins, len) := dec_of (by decide +kernel) i hi
def f_Juries_setAgainst_L46 (k2 : GS → Int → Option (GS)) (k17 : GS → Int → Int → Option (GS)) (G : GS) (x1 : Int) (x2 : Int) (s0 : Int) (s1 : Int) (s2 : Int) : Option (GS) :=
  gd (0 ≤ s2 ∧ s2 < 10) <|
  wG (si G 47 s2.toNat (bOr s1 s0)) fun G1 =>
  k17 G1 x1 (wr (x2 + 1))
theorem s_Juries_setAgainst_L46 {X : XT} {r : GS} {k2 : GS → Int → Option (GS)} (hk2 : ∀ {G : GS} {x1 : Int} , wr x1 = x1 → k2 G x1 = some r → J X true 7 0 0 M_Juries_setAgainst (Rv r) NC 0 0 2 [(0, rf X 45), (1, vi x1)] [] G) {k17 : GS → Int → Int → Option (GS)} (hk17 : ∀ {G : GS} {x1 : Int} {x2 : Int} , wr x1 = x1 → wr x2 = x2 → k17 G x1 x2 = some r → J X true 7 0 0 M_Juries_setAgainst (Rv r) NC 0 0 17 [(0, rf X 45), (1, vi x1), (2, vi x2)] [] G) : ∀ {G : GS} {x1 : Int} {x2 : Int} {s0 : Int} {s1 : Int} {s2 : Int}, wr x1 = x1 → wr x2 = x2 → wr s0 = s0 → wr s1 = s1 → wr s2 = s2 → f_Juries_setAgainst_L46 k2 k17 G x1 x2 s0 s1 s2 = some r → J X true 7 0 0 M_Juries_setAgainst (Rv r) NC 0 0 46 [(0, rf X 45), (1, vi x1), (2, vi x2)] [vi s0, vi s1, vi s2, rf X 47] G := by
  intro G x1 x2 s0 s1 s2 hx1 hx2 hs0 hs1 hs2 h
  unfold f_Juries_setAgainst_L46 at h
  refine j_ior (D_Juries_setAgainst 30 rfl) ?_
  have g1 := gd_c h
  replace h := gd_s h
  refine j_iast (NI := 10) (D_Juries_setAgainst 31 rfl) kd_47 lc_47 (hs2) rfl g1.1 g1.2 ?_
  refine j_gen (fun G1 e1 => ?_)
  replace h := wG_at h e1
  refine j_iinc (k := 2) (L' := [(2, vi (wr (x2 + 1))), (0, rf X 45), (1, vi x1)]) (D_Juries_setAgainst 32 rfl) rfl rfl (by decide) rfl ?_
  refine j_goto (tgt := 17) (D_Juries_setAgainst 33 rfl) rfl ?_
  refine j_loc [1, 2, 0] rfl ?_
  exact hk17 (hx1) (wr_wr _) h
def f_Juries_setAgainst_L17 (k2 : GS → Int → Option (GS)) : Nat → GS → Int → Int → Option (GS)
  | 0, _, _, _ => none
  | n + 1, G, x1, x2 =>
    if 10 ≤ x2 then
      k2 G (wr (x1 + 1))
    else
      gd (0 ≤ x1 ∧ x1 < 10) <|
      (f_Juries_areUnlike G x1 x2).bind fun q1 =>
      if q1 = 0 then
        f_Juries_setAgainst_L46 k2 (f_Juries_setAgainst_L17 k2 n) G x1 x2 0 (gi G 47 x1.toNat) x1
      else
        f_Juries_setAgainst_L46 k2 (f_Juries_setAgainst_L17 k2 n) G x1 x2 (bShl 1 x2) (gi G 47 x1.toNat) x1
theorem s_Juries_setAgainst_L17 {X : XT} {r : GS} {k2 : GS → Int → Option (GS)} (hk2 : ∀ {G : GS} {x1 : Int} , wr x1 = x1 → k2 G x1 = some r → J X true 7 0 0 M_Juries_setAgainst (Rv r) NC 0 0 2 [(0, rf X 45), (1, vi x1)] [] G) : ∀ (n : Nat) {G : GS} {x1 : Int} {x2 : Int}, wr x1 = x1 → wr x2 = x2 → f_Juries_setAgainst_L17 k2 n G x1 x2 = some r → J X true 7 0 0 M_Juries_setAgainst (Rv r) NC 0 0 17 [(0, rf X 45), (1, vi x1), (2, vi x2)] [] G := by
  intro n
  induction n with
  | zero =>
    intro G x1 x2 hx1 hx2 h
    exact none_some h
  | succ n ih =>
    intro G x1 x2 hx1 hx2 h
    rw [f_Juries_setAgainst_L17] at h
    refine j_iloadn (k := 2) (D_Juries_setAgainst 12 rfl) rfl rfl ?_
    refine j_bipush (v := 10) (D_Juries_setAgainst 13 rfl) rfl ?_
    refine j_ic_ge (tgt := 54) (D_Juries_setAgainst 14 rfl) rfl (hx2) (wr_lit rfl) (fun c1 => ?_) (fun c1 => ?_)
    · replace h := ite_t h c1
      refine j_iinc (k := 1) (L' := [(1, vi (wr (x1 + 1))), (0, rf X 45), (2, vi x2)]) (D_Juries_setAgainst 34 rfl) rfl rfl (by decide) rfl ?_
      refine j_goto (tgt := 2) (D_Juries_setAgainst 35 rfl) rfl ?_
      refine j_loc [1, 0] rfl ?_
      exact hk2 (wr_wr _) h
    · replace h := ite_f h c1
      refine j_aloadn (k := 0) (D_Juries_setAgainst 15 rfl) rfl rfl ?_
      refine j_getR rfl fa_Juries_17 kd_45 lc_45 (by decide) rfl fx_45_1 (by decide) (D_Juries_setAgainst 16 rfl) ?_
      refine j_iloadn (k := 1) (D_Juries_setAgainst 17 rfl) rfl rfl ?_
      refine j_dup2 (D_Juries_setAgainst 18 rfl) rfl rfl ?_
      have g1 := gd_c h
      replace h := gd_s h
      refine j_iald (NI := 10) (D_Juries_setAgainst 19 rfl) kd_47 lc_47 (hx1) rfl g1.1 g1.2 ?_
      refine j_aloadn (k := 0) (D_Juries_setAgainst 20 rfl) rfl rfl ?_
      refine j_iloadn (k := 1) (D_Juries_setAgainst 21 rfl) rfl rfl ?_
      refine j_iloadn (k := 2) (D_Juries_setAgainst 22 rfl) rfl rfl ?_
      obtain ⟨q1, e1, h⟩ := Option.bind_eq_some_iff.mp h
      refine j_cVz (c_Juries_areUnlike (hx1) (hx2) e1) rfl lk_Juries_54 mok_Juries_areUnlike kd_45 lc_45 rfl (by decide) rfl rfl (Nat.le_of_ble_eq_true rfl) (D_Juries_setAgainst 23 rfl) (fun w1 bw1 => ?_)
      refine j_if_eq (tgt := 45) (D_Juries_setAgainst 24 rfl) rfl (w1) (fun c2 => ?_) (fun c2 => ?_)
      · replace h := ite_t h c2
        refine j_iconst (v := 0) (D_Juries_setAgainst 29 rfl) rfl ?_
        refine j_loc [0, 1, 2] rfl ?_
        exact s_Juries_setAgainst_L46 hk2 ih (hx1) (hx2) (wr_lit rfl) (wr_gi _ _ _) (hx1) h
      · replace h := ite_f h c2
        refine j_iconst (v := 1) (D_Juries_setAgainst 25 rfl) rfl ?_
        refine j_iloadn (k := 2) (D_Juries_setAgainst 26 rfl) rfl rfl ?_
        refine j_ishl (D_Juries_setAgainst 27 rfl) ?_
        refine j_goto (tgt := 46) (D_Juries_setAgainst 28 rfl) rfl ?_
        refine j_loc [0, 1, 2] rfl ?_
        exact s_Juries_setAgainst_L46 hk2 ih (hx1) (hx2) (wr_bShl _ _) (wr_gi _ _ _) (hx1) h
def f_Juries_setAgainst_L2 : Nat → GS → Int → Option (GS)
  | 0, _, _ => none
  | n + 1, G, x1 =>
    if 10 ≤ x1 then
      some G
    else
      gd (0 ≤ x1 ∧ x1 < 10) <|
      wG (si G 47 x1.toNat 0) fun G1 =>
      f_Juries_setAgainst_L17 (f_Juries_setAgainst_L2 n) FU G1 x1 0
theorem s_Juries_setAgainst_L2 {X : XT} {r : GS} : ∀ (n : Nat) {G : GS} {x1 : Int}, wr x1 = x1 → f_Juries_setAgainst_L2 n G x1 = some r → J X true 7 0 0 M_Juries_setAgainst (Rv r) NC 0 0 2 [(0, rf X 45), (1, vi x1)] [] G := by
  intro n
  induction n with
  | zero =>
    intro G x1 hx1 h
    exact none_some h
  | succ n ih =>
    intro G x1 hx1 h
    rw [f_Juries_setAgainst_L2] at h
    refine j_iloadn (k := 1) (D_Juries_setAgainst 2 rfl) rfl rfl ?_
    refine j_bipush (v := 10) (D_Juries_setAgainst 3 rfl) rfl ?_
    refine j_ic_ge (tgt := 60) (D_Juries_setAgainst 4 rfl) rfl (hx1) (wr_lit rfl) (fun c1 => ?_) (fun c1 => ?_)
    · replace h := ite_t h c1
      exact j_vret (D_Juries_setAgainst 36 rfl) rfl rfl rfl (leafV h)
    · replace h := ite_f h c1
      refine j_aloadn (k := 0) (D_Juries_setAgainst 5 rfl) rfl rfl ?_
      refine j_getR rfl fa_Juries_17 kd_45 lc_45 (by decide) rfl fx_45_1 (by decide) (D_Juries_setAgainst 6 rfl) ?_
      refine j_iloadn (k := 1) (D_Juries_setAgainst 7 rfl) rfl rfl ?_
      refine j_iconst (v := 0) (D_Juries_setAgainst 8 rfl) rfl ?_
      have g1 := gd_c h
      replace h := gd_s h
      refine j_iast (NI := 10) (D_Juries_setAgainst 9 rfl) kd_47 lc_47 (hx1) rfl g1.1 g1.2 ?_
      refine j_gen (fun G1 e1 => ?_)
      replace h := wG_at h e1
      refine j_iconst (v := 0) (D_Juries_setAgainst 10 rfl) rfl ?_
      refine j_istoren (L' := [(2, vi 0), (0, rf X 45), (1, vi x1)]) (D_Juries_setAgainst 11 rfl) rfl (wr_lit rfl) (by decide) rfl ?_
      refine j_loc [1, 2, 0] rfl ?_
      exact s_Juries_setAgainst_L17 ih FU (hx1) (wr_lit rfl) h
def f_Juries_setAgainst (G : GS) : Option (GS) :=
  f_Juries_setAgainst_L2 FU G 0
theorem c_Juries_setAgainst {X : XT} {G : GS} {r : GS} (h : f_Juries_setAgainst G = some r) : Call X true 7 0 0 M_Juries_setAgainst [rf X 45] NC G (Rv r) := by
  refine Call_of_J cw_Juries_setAgainst (by decide +kernel) (Nat.le_of_ble_eq_true rfl) ?_
  unfold f_Juries_setAgainst at h
  show J X true 7 0 0 M_Juries_setAgainst (Rv r) NC 0 0 0 [(0, rf X 45)] [] G
  refine j_iconst (v := 0) (D_Juries_setAgainst 0 rfl) rfl ?_
  refine j_istoren (L' := [(1, vi 0), (0, rf X 45)]) (D_Juries_setAgainst 1 rfl) rfl (wr_lit rfl) (by decide) rfl ?_
  refine j_loc [1, 0] rfl ?_
  exact s_Juries_setAgainst_L2 FU (wr_lit rfl) h
abbrev M_Juries_layHeld : MI := (⟨"InquestHall$Juries", "layHeld", "(I)V"⟩, prog_3_method_9_code, 5, none)
theorem cw_Juries_layHeld : Cond.code M_Juries_layHeld.1 M_Juries_layHeld.2.1 M_Juries_layHeld.2.2.1 M_Juries_layHeld.2.2.2 ∈ TS := mTS (List.mem_of_getElem? (i := 1280) (by decide +kernel)) (by decide +kernel)
theorem fa_Juries_20 : FA "InquestHall$Juries" 20 10 2 true (.array .int) := ⟨_, _, _, _, ok_Juries, by decide, mTS (List.mem_of_getElem? (i := 516) (by decide +kernel)) (by decide +kernel), rfl, rfl⟩
theorem fx_45_2 {G : GS} (w : WF true NC G) : G.2.2 45 2 = 48 := w.2 rfl (45, 2, 48) (by decide)
theorem lk_Juries_23 : Cond.methodLink "InquestHall$Juries" 23 M_Arrays_fill.1 ∈ TS := mTS (List.mem_of_getElem? (i := 513) (by decide +kernel)) (by decide +kernel)
theorem kd_48 : kd 48 = (0, 12) := rfl
theorem lc_48 : 48 < NC := by decide
def tb_Juries_layHeld : List (Nat × Instr × Nat) := [(0, .aload_n 0, 1), (1, .getfield 20, 3), (4, .iconst (-1), 1), (5, .invokestatic 23, 3), (8, .iconst 0, 1), (9, .istore_n 2, 1), (10, .iload_n 2, 1), (11, .bipush 10, 2), (13, .if_icmp .ge 68, 3), (16, .iconst 0, 1), (17, .istore_n 3, 1), (18, .iload_n 3, 1), (19, .bipush 12, 2), (21, .if_icmp .ge 54, 3), (24, .iload_n 1, 1), (25, .iconst 1, 1), (26, .iload_n 2, 1), (27, .ishl, 1), (28, .iand, 1), (29, .ifCond .eq 46, 3), (32, .aload_n 0, 1), (33, .getfield 13, 3), (36, .iload_n 2, 1), (37, .bipush 12, 2), (39, .imul, 1), (40, .iload_n 3, 1), (41, .iadd, 1), (42, .iaload, 1), (43, .istore 4, 2), (45, .aload_n 0, 1), (46, .getfield 20, 3), (49, .iload_n 3, 1), (50, .iload 4, 2), (52, .bipush (-2), 2), (54, .if_icmp .ne 12, 3), (57, .aload_n 0, 1), (58, .getfield 20, 3), (61, .iload_n 3, 1), (62, .iaload, 1), (63, .goto 5, 3), (66, .iload 4, 2), (68, .iastore, 1), (69, .iinc 3 1, 3), (72, .goto (-54), 3), (75, .iinc 2 1, 3), (78, .goto (-68), 3), (81, .return_, 1)]
theorem D_Juries_layHeld (i : Nat) {pc len : Nat} {ins : Instr} (hi : tb_Juries_layHeld[i]? = some (pc, ins, len)) : decode M_Juries_layHeld.2.1 pc = .ok (ins, len) := dec_of (by decide +kernel) i hi
def f_Juries_layHeld_L75 (k10 : GS → Int → Int → Option (GS)) (G : GS) (x1 : Int) (x2 : Int) : Option (GS) :=
  k10 G x1 (wr (x2 + 1))
theorem s_Juries_layHeld_L75 {X : XT} {r : GS} {k10 : GS → Int → Int → Option (GS)} (hk10 : ∀ {G : GS} {x1 : Int} {x2 : Int} , wr x1 = x1 → wr x2 = x2 → k10 G x1 x2 = some r → J X true 9 0 0 M_Juries_layHeld (Rv r) NC 0 0 10 [(0, rf X 45), (1, vi x1), (2, vi x2)] [] G) : ∀ {G : GS} {x1 : Int} {x2 : Int}, wr x1 = x1 → wr x2 = x2 → f_Juries_layHeld_L75 k10 G x1 x2 = some r → J X true 9 0 0 M_Juries_layHeld (Rv r) NC 0 0 75 [(0, rf X 45), (1, vi x1), (2, vi x2)] [] G := by
  intro G x1 x2 hx1 hx2 h
  unfold f_Juries_layHeld_L75 at h
  refine j_iinc (k := 2) (L' := [(2, vi (wr (x2 + 1))), (0, rf X 45), (1, vi x1)]) (D_Juries_layHeld 44 rfl) rfl rfl (by decide) rfl ?_
  refine j_goto (tgt := 10) (D_Juries_layHeld 45 rfl) rfl ?_
  refine j_loc [1, 2, 0] rfl ?_
  exact hk10 (hx1) (wr_wr _) h
def f_Juries_layHeld_L68 (k10 : GS → Int → Int → Option (GS)) (k18 : GS → Int → Int → Int → Option (GS)) (G : GS) (x1 : Int) (x2 : Int) (x3 : Int) (s0 : Int) (s1 : Int) : Option (GS) :=
  gd (0 ≤ s1 ∧ s1 < 12) <|
  wG (si G 48 s1.toNat s0) fun G1 =>
  k18 G1 x1 x2 (wr (x3 + 1))
theorem s_Juries_layHeld_L68 {X : XT} {r : GS} {k10 : GS → Int → Int → Option (GS)} (hk10 : ∀ {G : GS} {x1 : Int} {x2 : Int} , wr x1 = x1 → wr x2 = x2 → k10 G x1 x2 = some r → J X true 9 0 0 M_Juries_layHeld (Rv r) NC 0 0 10 [(0, rf X 45), (1, vi x1), (2, vi x2)] [] G) {k18 : GS → Int → Int → Int → Option (GS)} (hk18 : ∀ {G : GS} {x1 : Int} {x2 : Int} {x3 : Int} , wr x1 = x1 → wr x2 = x2 → wr x3 = x3 → k18 G x1 x2 x3 = some r → J X true 9 0 0 M_Juries_layHeld (Rv r) NC 0 0 18 [(0, rf X 45), (1, vi x1), (2, vi x2), (3, vi x3)] [] G) : ∀ {G : GS} {x1 : Int} {x2 : Int} {x3 : Int} {s0 : Int} {s1 : Int}, wr x1 = x1 → wr x2 = x2 → wr x3 = x3 → wr s0 = s0 → wr s1 = s1 → f_Juries_layHeld_L68 k10 k18 G x1 x2 x3 s0 s1 = some r → J X true 9 0 0 M_Juries_layHeld (Rv r) NC 0 0 68 [(0, rf X 45), (1, vi x1), (2, vi x2), (3, vi x3)] [vi s0, vi s1, rf X 48] G := by
  intro G x1 x2 x3 s0 s1 hx1 hx2 hx3 hs0 hs1 h
  unfold f_Juries_layHeld_L68 at h
  have g1 := gd_c h
  replace h := gd_s h
  refine j_iast (NI := 12) (D_Juries_layHeld 41 rfl) kd_48 lc_48 (hs1) rfl g1.1 g1.2 ?_
  refine j_gen (fun G1 e1 => ?_)
  replace h := wG_at h e1
  refine j_iinc (k := 3) (L' := [(3, vi (wr (x3 + 1))), (0, rf X 45), (1, vi x1), (2, vi x2)]) (D_Juries_layHeld 42 rfl) rfl rfl (by decide) rfl ?_
  refine j_goto (tgt := 18) (D_Juries_layHeld 43 rfl) rfl ?_
  refine j_loc [1, 2, 3, 0] rfl ?_
  exact hk18 (hx1) (hx2) (wr_wr _) h
def f_Juries_layHeld_L18 (k10 : GS → Int → Int → Option (GS)) : Nat → GS → Int → Int → Int → Option (GS)
  | 0, _, _, _, _ => none
  | n + 1, G, x1, x2, x3 =>
    if 12 ≤ x3 then
      f_Juries_layHeld_L75 k10 G x1 x2
    else
      if bAnd x1 (bShl 1 x2) = 0 then
        f_Juries_layHeld_L75 k10 G x1 x2
      else
        gd (0 ≤ wr ((x2 * 12) + x3) ∧ wr ((x2 * 12) + x3) < 120) <|
        if gi G 46 (wr ((x2 * 12) + x3)).toNat = (-2) then
          gd (0 ≤ x3 ∧ x3 < 12) <|
          f_Juries_layHeld_L68 k10 (f_Juries_layHeld_L18 k10 n) G x1 x2 x3 (gi G 48 x3.toNat) x3
        else
          f_Juries_layHeld_L68 k10 (f_Juries_layHeld_L18 k10 n) G x1 x2 x3 (gi G 46 (wr ((x2 * 12) + x3)).toNat) x3
theorem s_Juries_layHeld_L18 {X : XT} {r : GS} {k10 : GS → Int → Int → Option (GS)} (hk10 : ∀ {G : GS} {x1 : Int} {x2 : Int} , wr x1 = x1 → wr x2 = x2 → k10 G x1 x2 = some r → J X true 9 0 0 M_Juries_layHeld (Rv r) NC 0 0 10 [(0, rf X 45), (1, vi x1), (2, vi x2)] [] G) : ∀ (n : Nat) {G : GS} {x1 : Int} {x2 : Int} {x3 : Int}, wr x1 = x1 → wr x2 = x2 → wr x3 = x3 → f_Juries_layHeld_L18 k10 n G x1 x2 x3 = some r → J X true 9 0 0 M_Juries_layHeld (Rv r) NC 0 0 18 [(0, rf X 45), (1, vi x1), (2, vi x2), (3, vi x3)] [] G := by
  intro n
  induction n with
  | zero =>
    intro G x1 x2 x3 hx1 hx2 hx3 h
    exact none_some h
  | succ n ih =>
    intro G x1 x2 x3 hx1 hx2 hx3 h
    rw [f_Juries_layHeld_L18] at h
    refine j_iloadn (k := 3) (D_Juries_layHeld 11 rfl) rfl rfl ?_
    refine j_bipush (v := 12) (D_Juries_layHeld 12 rfl) rfl ?_
    refine j_ic_ge (tgt := 75) (D_Juries_layHeld 13 rfl) rfl (hx3) (wr_lit rfl) (fun c1 => ?_) (fun c1 => ?_)
    · replace h := ite_t h c1
      refine j_loc [0, 1, 2] rfl ?_
      exact s_Juries_layHeld_L75 hk10 (hx1) (hx2) h
    · replace h := ite_f h c1
      refine j_iloadn (k := 1) (D_Juries_layHeld 14 rfl) rfl rfl ?_
      refine j_iconst (v := 1) (D_Juries_layHeld 15 rfl) rfl ?_
      refine j_iloadn (k := 2) (D_Juries_layHeld 16 rfl) rfl rfl ?_
      refine j_ishl (D_Juries_layHeld 17 rfl) ?_
      refine j_iand (D_Juries_layHeld 18 rfl) ?_
      refine j_if_eq (tgt := 75) (D_Juries_layHeld 19 rfl) rfl (wr_bAnd _ _) (fun c2 => ?_) (fun c2 => ?_)
      · replace h := ite_t h c2
        refine j_loc [0, 1, 2] rfl ?_
        exact s_Juries_layHeld_L75 hk10 (hx1) (hx2) h
      · replace h := ite_f h c2
        refine j_aloadn (k := 0) (D_Juries_layHeld 20 rfl) rfl rfl ?_
        refine j_getR rfl fa_Juries_13 kd_45 lc_45 (by decide) rfl fx_45_0 (by decide) (D_Juries_layHeld 21 rfl) ?_
        refine j_iloadn (k := 2) (D_Juries_layHeld 22 rfl) rfl rfl ?_
        refine j_bipush (v := 12) (D_Juries_layHeld 23 rfl) rfl ?_
        refine j_imul (D_Juries_layHeld 24 rfl) ?_
        refine j_iloadn (k := 3) (D_Juries_layHeld 25 rfl) rfl rfl ?_
        refine j_iadd (D_Juries_layHeld 26 rfl) ?_
        have g1 := gd_c h
        replace h := gd_s h
        refine j_iald (NI := 120) (D_Juries_layHeld 27 rfl) kd_46 lc_46 (rfl) rfl g1.1 g1.2 ?_
        refine j_istore (L' := [(4, vi (gi G 46 (wr ((x2 * 12) + x3)).toNat)), (0, rf X 45), (1, vi x1), (2, vi x2), (3, vi x3)]) (D_Juries_layHeld 28 rfl) (wr_gi _ _ _) (by decide) rfl ?_
        refine j_aloadn (k := 1) (D_Juries_layHeld 29 rfl) rfl rfl ?_
        refine j_getR rfl fa_Juries_20 kd_45 lc_45 (by decide) rfl fx_45_2 (by decide) (D_Juries_layHeld 30 rfl) ?_
        refine j_iloadn (k := 4) (D_Juries_layHeld 31 rfl) rfl rfl ?_
        refine j_iload (k := 0) (D_Juries_layHeld 32 rfl) rfl ?_
        refine j_bipush (v := (-2)) (D_Juries_layHeld 33 rfl) rfl ?_
        refine j_ic_ne (tgt := 66) (D_Juries_layHeld 34 rfl) rfl (wr_gi _ _ _) (wr_lit rfl) (fun c3 => ?_) (fun c3 => ?_)
        · replace h := ite_f h c3
          refine j_iload (k := 0) (D_Juries_layHeld 40 rfl) rfl ?_
          refine j_loc [1, 2, 3, 4] rfl ?_
          exact s_Juries_layHeld_L68 hk10 ih (hx1) (hx2) (hx3) (wr_gi _ _ _) (hx3) h
        · replace h := ite_t h c3
          refine j_aloadn (k := 1) (D_Juries_layHeld 35 rfl) rfl rfl ?_
          refine j_getR rfl fa_Juries_20 kd_45 lc_45 (by decide) rfl fx_45_2 (by decide) (D_Juries_layHeld 36 rfl) ?_
          refine j_iloadn (k := 4) (D_Juries_layHeld 37 rfl) rfl rfl ?_
          have g2 := gd_c h
          replace h := gd_s h
          refine j_iald (NI := 12) (D_Juries_layHeld 38 rfl) kd_48 lc_48 (hx3) rfl g2.1 g2.2 ?_
          refine j_goto (tgt := 68) (D_Juries_layHeld 39 rfl) rfl ?_
          refine j_loc [1, 2, 3, 4] rfl ?_
          exact s_Juries_layHeld_L68 hk10 ih (hx1) (hx2) (hx3) (wr_gi _ _ _) (hx3) h
def f_Juries_layHeld_L10 : Nat → GS → Int → Int → Option (GS)
  | 0, _, _, _ => none
  | n + 1, G, x1, x2 =>
    if 10 ≤ x2 then
      some G
    else
      f_Juries_layHeld_L18 (f_Juries_layHeld_L10 n) FU G x1 x2 0
theorem s_Juries_layHeld_L10 {X : XT} {r : GS} : ∀ (n : Nat) {G : GS} {x1 : Int} {x2 : Int}, wr x1 = x1 → wr x2 = x2 → f_Juries_layHeld_L10 n G x1 x2 = some r → J X true 9 0 0 M_Juries_layHeld (Rv r) NC 0 0 10 [(0, rf X 45), (1, vi x1), (2, vi x2)] [] G := by
  intro n
  induction n with
  | zero =>
    intro G x1 x2 hx1 hx2 h
    exact none_some h
  | succ n ih =>
    intro G x1 x2 hx1 hx2 h
    rw [f_Juries_layHeld_L10] at h
    refine j_iloadn (k := 2) (D_Juries_layHeld 6 rfl) rfl rfl ?_
    refine j_bipush (v := 10) (D_Juries_layHeld 7 rfl) rfl ?_
    refine j_ic_ge (tgt := 81) (D_Juries_layHeld 8 rfl) rfl (hx2) (wr_lit rfl) (fun c1 => ?_) (fun c1 => ?_)
    · replace h := ite_t h c1
      exact j_vret (D_Juries_layHeld 46 rfl) rfl rfl rfl (leafV h)
    · replace h := ite_f h c1
      refine j_iconst (v := 0) (D_Juries_layHeld 9 rfl) rfl ?_
      refine j_istoren (L' := [(3, vi 0), (0, rf X 45), (1, vi x1), (2, vi x2)]) (D_Juries_layHeld 10 rfl) rfl (wr_lit rfl) (by decide) rfl ?_
      refine j_loc [1, 2, 3, 0] rfl ?_
      exact s_Juries_layHeld_L18 ih FU (hx1) (hx2) (wr_lit rfl) h
def f_Juries_layHeld (G : GS) (a1 : Int) : Option (GS) :=
  wG (fillG G 48 12 (-1)) fun G1 =>
  f_Juries_layHeld_L10 FU G1 a1 0
theorem c_Juries_layHeld {X : XT} {G : GS} {a1 : Int} {r : GS} (ha1 : wr a1 = a1) (h : f_Juries_layHeld G a1 = some r) : Call X true 9 0 0 M_Juries_layHeld [rf X 45, vi a1] NC G (Rv r) := by
  refine Call_of_J cw_Juries_layHeld (by decide +kernel) (Nat.le_of_ble_eq_true rfl) ?_
  unfold f_Juries_layHeld at h
  show J X true 9 0 0 M_Juries_layHeld (Rv r) NC 0 0 0 [(0, rf X 45), (1, vi a1)] [] G
  refine j_aloadn (k := 0) (D_Juries_layHeld 0 rfl) rfl rfl ?_
  refine j_getR rfl fa_Juries_20 kd_45 lc_45 (by decide) rfl fx_45_2 (by decide) (D_Juries_layHeld 1 rfl) ?_
  refine j_iconst (v := (-1)) (D_Juries_layHeld 2 rfl) rfl ?_
  refine j_cSv (c_fill kd_48 lc_48 (wr_lit rfl)) rfl lk_Juries_23 sokfill (by decide) rfl rfl (Nat.le_of_ble_eq_true rfl) (D_Juries_layHeld 3 rfl) ?_
  refine j_gen (fun G1 e1 => ?_)
  replace h := wG_at h e1
  refine j_iconst (v := 0) (D_Juries_layHeld 4 rfl) rfl ?_
  refine j_istoren (L' := [(2, vi 0), (0, rf X 45), (1, vi a1)]) (D_Juries_layHeld 5 rfl) rfl (wr_lit rfl) (by decide) rfl ?_
  refine j_loc [1, 2, 0] rfl ?_
  exact s_Juries_layHeld_L10 FU (ha1) (wr_lit rfl) h
abbrev M_Juries_above : MI := (⟨"InquestHall$Juries", "above", "(II)I"⟩, prog_3_method_10_code, 5, (some .int))
theorem cw_Juries_above : Cond.code M_Juries_above.1 M_Juries_above.2.1 M_Juries_above.2.2.1 M_Juries_above.2.2.2 ∈ TS := mTS (List.mem_of_getElem? (i := 1284) (by decide +kernel)) (by decide +kernel)
def tb_Juries_above : List (Nat × Instr × Nat) := [(0, .aload_n 0, 1), (1, .getfield 20, 3), (4, .iload_n 1, 1), (5, .iaload, 1), (6, .istore_n 3, 1), (7, .iconst 0, 1), (8, .istore 4, 2), (10, .iload 4, 2), (12, .bipush 12, 2), (14, .if_icmp .ge 27, 3), (17, .iload 4, 2), (19, .iload_n 2, 1), (20, .if_icmp .ge 21, 3), (23, .iload_n 3, 1), (24, .iconst (-1), 1), (25, .if_icmp .eq 16, 3), (28, .aload_n 0, 1), (29, .getfield 20, 3), (32, .iload_n 3, 1), (33, .iaload, 1), (34, .istore_n 3, 1), (35, .iinc 4 1, 3), (38, .goto (-28), 3), (41, .iload_n 3, 1), (42, .ireturn, 1)]
theorem D_Juries_above (i : Nat) {pc len : Nat} {ins : Instr} (hi : tb_Juries_above[i]? = some (pc, ins, len)) : decode M_Juries_above.2.1 pc = .ok (ins, len) := dec_of (by decide +kernel) i hi
def f_Juries_above_L10 (G : GS) : Nat → Int → Int → Int → Option (Int)
  | 0, _, _, _ => none
  | n + 1, x2, x3, x4 =>
    if 12 ≤ x4 then
      some x3
    else
      if x2 ≤ x4 then
        some x3
      else
        if x3 = (-1) then
          some x3
        else
          gd (0 ≤ x3 ∧ x3 < 12) <|
          f_Juries_above_L10 G n x2 (gi G 48 x3.toNat) (wr (x4 + 1))
theorem s_Juries_above_L10 {X : XT} {G : GS} {r : Int} : ∀ (n : Nat) {x2 : Int} {x3 : Int} {x4 : Int}, wr x2 = x2 → wr x3 = x3 → wr x4 = x4 → f_Juries_above_L10 G n x2 x3 x4 = some r → J X true 6 0 0 M_Juries_above (Ri r G) NC 0 0 10 [(0, rf X 45), (2, vi x2), (3, vi x3), (4, vi x4)] [] G := by
  intro n
  induction n with
  | zero =>
    intro x2 x3 x4 hx2 hx3 hx4 h
    exact none_some h
  | succ n ih =>
    intro x2 x3 x4 hx2 hx3 hx4 h
    rw [f_Juries_above_L10] at h
    refine j_iload (k := 3) (D_Juries_above 7 rfl) rfl ?_
    refine j_bipush (v := 12) (D_Juries_above 8 rfl) rfl ?_
    refine j_ic_ge (tgt := 41) (D_Juries_above 9 rfl) rfl (hx4) (wr_lit rfl) (fun c1 => ?_) (fun c1 => ?_)
    · replace h := ite_t h c1
      refine j_iloadn (k := 2) (D_Juries_above 23 rfl) rfl rfl ?_
      exact j_iret (D_Juries_above 24 rfl) rfl (hx3) rfl rfl (leafIo h (wr_n (hx3)))
    · replace h := ite_f h c1
      refine j_iload (k := 3) (D_Juries_above 10 rfl) rfl ?_
      refine j_iloadn (k := 1) (D_Juries_above 11 rfl) rfl rfl ?_
      refine j_ic_ge (tgt := 41) (D_Juries_above 12 rfl) rfl (hx4) (hx2) (fun c2 => ?_) (fun c2 => ?_)
      · replace h := ite_t h c2
        refine j_iloadn (k := 2) (D_Juries_above 23 rfl) rfl rfl ?_
        exact j_iret (D_Juries_above 24 rfl) rfl (hx3) rfl rfl (leafIo h (wr_n (hx3)))
      · replace h := ite_f h c2
        refine j_iloadn (k := 2) (D_Juries_above 13 rfl) rfl rfl ?_
        refine j_iconst (v := (-1)) (D_Juries_above 14 rfl) rfl ?_
        refine j_ic_eq (tgt := 41) (D_Juries_above 15 rfl) rfl (hx3) (wr_lit rfl) (fun c3 => ?_) (fun c3 => ?_)
        · replace h := ite_t h c3
          refine j_iloadn (k := 2) (D_Juries_above 23 rfl) rfl rfl ?_
          exact j_iret (D_Juries_above 24 rfl) rfl (hx3) rfl rfl (leafIo h (wr_n (hx3)))
        · replace h := ite_f h c3
          refine j_aloadn (k := 0) (D_Juries_above 16 rfl) rfl rfl ?_
          refine j_getR rfl fa_Juries_20 kd_45 lc_45 (by decide) rfl fx_45_2 (by decide) (D_Juries_above 17 rfl) ?_
          refine j_iloadn (k := 2) (D_Juries_above 18 rfl) rfl rfl ?_
          have g1 := gd_c h
          replace h := gd_s h
          refine j_iald (NI := 12) (D_Juries_above 19 rfl) kd_48 lc_48 (hx3) rfl g1.1 g1.2 ?_
          refine j_istoren (L' := [(3, vi (gi G 48 x3.toNat)), (0, rf X 45), (2, vi x2), (4, vi x4)]) (D_Juries_above 20 rfl) rfl (wr_gi _ _ _) (by decide) rfl ?_
          refine j_iinc (k := 3) (L' := [(4, vi (wr (x4 + 1))), (3, vi (gi G 48 x3.toNat)), (0, rf X 45), (2, vi x2)]) (D_Juries_above 21 rfl) rfl rfl (by decide) rfl ?_
          refine j_goto (tgt := 10) (D_Juries_above 22 rfl) rfl ?_
          refine j_loc [2, 3, 1, 0] rfl ?_
          exact ih (hx2) (wr_gi _ _ _) (wr_wr _) h
def f_Juries_above (G : GS) (a1 : Int) (a2 : Int) : Option (Int) :=
  gd (0 ≤ a1 ∧ a1 < 12) <|
  f_Juries_above_L10 G FU a2 (gi G 48 a1.toNat) 0
theorem c_Juries_above {X : XT} {G : GS} {a1 : Int} {a2 : Int} {r : Int} (ha1 : wr a1 = a1) (ha2 : wr a2 = a2) (h : f_Juries_above G a1 a2 = some r) : Call X true 6 0 0 M_Juries_above [rf X 45, vi a1, vi a2] NC G (Ri r G) := by
  refine Call_of_J cw_Juries_above (by decide +kernel) (Nat.le_of_ble_eq_true rfl) ?_
  unfold f_Juries_above at h
  show J X true 6 0 0 M_Juries_above (Ri r G) NC 0 0 0 [(0, rf X 45), (1, vi a1), (2, vi a2)] [] G
  refine j_aloadn (k := 0) (D_Juries_above 0 rfl) rfl rfl ?_
  refine j_getR rfl fa_Juries_20 kd_45 lc_45 (by decide) rfl fx_45_2 (by decide) (D_Juries_above 1 rfl) ?_
  refine j_iloadn (k := 1) (D_Juries_above 2 rfl) rfl rfl ?_
  have g1 := gd_c h
  replace h := gd_s h
  refine j_iald (NI := 12) (D_Juries_above 3 rfl) kd_48 lc_48 (ha1) rfl g1.1 g1.2 ?_
  refine j_istoren (L' := [(3, vi (gi G 48 a1.toNat)), (0, rf X 45), (1, vi a1), (2, vi a2)]) (D_Juries_above 4 rfl) rfl (wr_gi _ _ _) (by decide) rfl ?_
  refine j_iconst (v := 0) (D_Juries_above 5 rfl) rfl ?_
  refine j_istore (L' := [(4, vi 0), (3, vi (gi G 48 a1.toNat)), (0, rf X 45), (1, vi a1), (2, vi a2)]) (D_Juries_above 6 rfl) (wr_lit rfl) (by decide) rfl ?_
  refine j_loc [2, 4, 1, 0] rfl ?_
  exact s_Juries_above_L10 FU (ha2) (wr_gi _ _ _) (wr_lit rfl) h
