/-! printed by wip/whole/gen.py out of the listing of the bytecode -/
abbrev M_Descent_stockNearest : MI := (⟨"InquestHall$Descent", "stockNearest", "(I)I"⟩, prog_2_method_7_code, 6, (some .int))
theorem cw_Descent_stockNearest : Cond.code M_Descent_stockNearest.1 M_Descent_stockNearest.2.1 M_Descent_stockNearest.2.2.1 M_Descent_stockNearest.2.2.2 ∈ TS := mTS (List.mem_of_getElem? (i := 964) (by decide +kernel)) (by decide +kernel)
theorem lk_Descent_51 : Cond.methodLink "InquestHall$Descent" 51 M_Descent_stockOf.1 ∈ TS := mTS (List.mem_of_getElem? (i := 940) (by decide +kernel)) (by decide +kernel)
theorem mok_Descent_stockOf : MOK M_Descent_stockOf 2 := ⟨mTS (List.mem_of_getElem? (i := 942) (by decide +kernel)) (by decide +kernel), mTS (List.mem_of_getElem? (i := 25) (by decide +kernel)) (by decide +kernel), mTS (List.mem_of_getElem? (i := 134) (by decide +kernel)) (by decide +kernel), cw_Descent_stockOf, ⟨by decide, by decide, by decide +kernel⟩, by decide +kernel, by decide⟩
def tb_Descent_stockNearest : List (Nat × Instr × Nat) := [(0, .aload_n 0, 1), (1, .iload_n 1, 1), (2, .iconst (-1), 1), (3, .invokevirtual 51, 3), (6, .istore_n 2, 1), (7, .iload_n 1, 1), (8, .istore_n 3, 1), (9, .iconst 0, 1), (10, .istore 4, 2), (12, .iload 4, 2), (14, .bipush 32, 2), (16, .if_icmp .ge 48, 3), (19, .iload_n 2, 1), (20, .ifCond .ne 44, 3), (23, .aload_n 0, 1), (24, .getfield 27, 3), (27, .getfield 62, 3), (30, .iload_n 3, 1), (31, .iaload, 1), (32, .iconst (-1), 1), (33, .if_icmp .eq 31, 3), (36, .aload_n 0, 1), (37, .getfield 27, 3), (40, .getfield 62, 3), (43, .iload_n 3, 1), (44, .iaload, 1), (45, .istore 5, 2), (47, .aload_n 0, 1), (48, .iload 5, 2), (50, .iload_n 3, 1), (51, .invokevirtual 51, 3), (54, .istore_n 2, 1), (55, .iload 5, 2), (57, .istore_n 3, 1), (58, .iinc 4 1, 3), (61, .goto (-49), 3), (64, .iload_n 2, 1), (65, .ireturn, 1)]
theorem D_Descent_stockNearest (i : Nat) {pc len : Nat} {ins : Instr} (hi : tb_Descent_stockNearest[i]? = some (pc, ins, len)) : decode M_Descent_stockNearest.2.1 pc = .ok (ins, len) := dec_of (by decide +kernel) i hi
def f_Descent_stockNearest_L12 (G : GS) : Nat → Int → Int → Int → Option (Int)
  | 0, _, _, _ => none
  | n + 1, x2, x3, x4 =>
    if 32 ≤ x4 then
      some x2
    else
      if x2 = 0 then
        gd (0 ≤ x3 ∧ x3 < 32) <|
        if gi G 3 x3.toNat = (-1) then
          some x2
        else
          gd (0 ≤ x3 ∧ x3 < 32) <|
          (f_Descent_stockOf G (gi G 3 x3.toNat) x3).bind fun q1 =>
          f_Descent_stockNearest_L12 G n q1 (gi G 3 x3.toNat) (wr (x4 + 1))
      else
        some x2
theorem s_Descent_stockNearest_L12 {X : XT} {G : GS} {r : Int} : ∀ (n : Nat) {x2 : Int} {x3 : Int} {x4 : Int}, wr x2 = x2 → wr x3 = x3 → wr x4 = x4 → f_Descent_stockNearest_L12 G n x2 x3 x4 = some r → J X true 7 0 0 M_Descent_stockNearest (Ri r G) NC 0 0 12 [(0, rf X 30), (2, vi x2), (3, vi x3), (4, vi x4)] [] G := by
  intro n
  induction n with
  | zero =>
    intro x2 x3 x4 hx2 hx3 hx4 h
    exact none_some h
  | succ n ih =>
    intro x2 x3 x4 hx2 hx3 hx4 h
    rw [f_Descent_stockNearest_L12] at h
    refine j_iload (k := 3) (D_Descent_stockNearest 9 rfl) rfl ?_
    refine j_bipush (v := 32) (D_Descent_stockNearest 10 rfl) rfl ?_
    refine j_ic_ge (tgt := 64) (D_Descent_stockNearest 11 rfl) rfl (hx4) (wr_lit rfl) (fun c1 => ?_) (fun c1 => ?_)
    · replace h := ite_t h c1
      refine j_iloadn (k := 1) (D_Descent_stockNearest 36 rfl) rfl rfl ?_
      exact j_iret (D_Descent_stockNearest 37 rfl) rfl (hx2) rfl rfl (leafIo h (wr_n (hx2)))
    · replace h := ite_f h c1
      refine j_iloadn (k := 1) (D_Descent_stockNearest 12 rfl) rfl rfl ?_
      refine j_if_ne (tgt := 64) (D_Descent_stockNearest 13 rfl) rfl (hx2) (fun c2 => ?_) (fun c2 => ?_)
      · replace h := ite_f h c2
        refine j_iloadn (k := 1) (D_Descent_stockNearest 36 rfl) rfl rfl ?_
        exact j_iret (D_Descent_stockNearest 37 rfl) rfl (hx2) rfl rfl (leafIo h (wr_n (hx2)))
      · replace h := ite_t h c2
        refine j_aloadn (k := 0) (D_Descent_stockNearest 14 rfl) rfl rfl ?_
        refine j_getR rfl fa_Descent_27 kd_30 lc_30 (by decide) rfl fx_30_0 (by decide) (D_Descent_stockNearest 15 rfl) ?_
        refine j_getR rfl fa_Descent_62 kd_1 lc_1 (by decide) rfl fx_1_1 (by decide) (D_Descent_stockNearest 16 rfl) ?_
        refine j_iloadn (k := 2) (D_Descent_stockNearest 17 rfl) rfl rfl ?_
        have g1 := gd_c h
        replace h := gd_s h
        refine j_iald (NI := 32) (D_Descent_stockNearest 18 rfl) kd_3 lc_3 (hx3) rfl g1.1 g1.2 ?_
        refine j_iconst (v := (-1)) (D_Descent_stockNearest 19 rfl) rfl ?_
        refine j_ic_eq (tgt := 64) (D_Descent_stockNearest 20 rfl) rfl (wr_gi _ _ _) (wr_lit rfl) (fun c3 => ?_) (fun c3 => ?_)
        · replace h := ite_t h c3
          refine j_iloadn (k := 1) (D_Descent_stockNearest 36 rfl) rfl rfl ?_
          exact j_iret (D_Descent_stockNearest 37 rfl) rfl (hx2) rfl rfl (leafIo h (wr_n (hx2)))
        · replace h := ite_f h c3
          refine j_aloadn (k := 0) (D_Descent_stockNearest 21 rfl) rfl rfl ?_
          refine j_getR rfl fa_Descent_27 kd_30 lc_30 (by decide) rfl fx_30_0 (by decide) (D_Descent_stockNearest 22 rfl) ?_
          refine j_getR rfl fa_Descent_62 kd_1 lc_1 (by decide) rfl fx_1_1 (by decide) (D_Descent_stockNearest 23 rfl) ?_
          refine j_iloadn (k := 2) (D_Descent_stockNearest 24 rfl) rfl rfl ?_
          have g2 := gd_c h
          replace h := gd_s h
          refine j_iald (NI := 32) (D_Descent_stockNearest 25 rfl) kd_3 lc_3 (hx3) rfl g2.1 g2.2 ?_
          refine j_istore (L' := [(5, vi (gi G 3 x3.toNat)), (0, rf X 30), (2, vi x2), (3, vi x3), (4, vi x4)]) (D_Descent_stockNearest 26 rfl) (wr_gi _ _ _) (by decide) rfl ?_
          refine j_aloadn (k := 1) (D_Descent_stockNearest 27 rfl) rfl rfl ?_
          refine j_iload (k := 0) (D_Descent_stockNearest 28 rfl) rfl ?_
          refine j_iloadn (k := 3) (D_Descent_stockNearest 29 rfl) rfl rfl ?_
          obtain ⟨q1, e1, h⟩ := Option.bind_eq_some_iff.mp h
          refine j_cVi (c_Descent_stockOf (wr_gi _ _ _) (hx3) e1) rfl lk_Descent_51 mok_Descent_stockOf kd_30 lc_30 rfl (by decide) rfl rfl (Nat.le_of_ble_eq_true rfl) (D_Descent_stockNearest 30 rfl) (fun w1 => ?_)
          refine j_istoren (L' := [(2, vi q1), (5, vi (gi G 3 x3.toNat)), (0, rf X 30), (3, vi x3), (4, vi x4)]) (D_Descent_stockNearest 31 rfl) rfl (w1) (by decide) rfl ?_
          refine j_iload (k := 1) (D_Descent_stockNearest 32 rfl) rfl ?_
          refine j_istoren (L' := [(3, vi (gi G 3 x3.toNat)), (2, vi q1), (5, vi (gi G 3 x3.toNat)), (0, rf X 30), (4, vi x4)]) (D_Descent_stockNearest 33 rfl) rfl (wr_gi _ _ _) (by decide) rfl ?_
          refine j_iinc (k := 4) (L' := [(4, vi (wr (x4 + 1))), (3, vi (gi G 3 x3.toNat)), (2, vi q1), (5, vi (gi G 3 x3.toNat)), (0, rf X 30)]) (D_Descent_stockNearest 34 rfl) rfl rfl (by decide) rfl ?_
          refine j_goto (tgt := 12) (D_Descent_stockNearest 35 rfl) rfl ?_
          refine j_loc [4, 2, 1, 0] rfl ?_
          exact ih (w1) (wr_gi _ _ _) (wr_wr _) h
def f_Descent_stockNearest (G : GS) (a1 : Int) : Option (Int) :=
  (f_Descent_stockOf G a1 (-1)).bind fun q1 =>
  f_Descent_stockNearest_L12 G FU q1 a1 0
theorem c_Descent_stockNearest {X : XT} {G : GS} {a1 : Int} {r : Int} (ha1 : wr a1 = a1) (h : f_Descent_stockNearest G a1 = some r) : Call X true 7 0 0 M_Descent_stockNearest [rf X 30, vi a1] NC G (Ri r G) := by
  refine Call_of_J cw_Descent_stockNearest (by decide +kernel) (Nat.le_of_ble_eq_true rfl) ?_
  unfold f_Descent_stockNearest at h
  show J X true 7 0 0 M_Descent_stockNearest (Ri r G) NC 0 0 0 [(0, rf X 30), (1, vi a1)] [] G
  refine j_aloadn (k := 0) (D_Descent_stockNearest 0 rfl) rfl rfl ?_
  refine j_iloadn (k := 1) (D_Descent_stockNearest 1 rfl) rfl rfl ?_
  refine j_iconst (v := (-1)) (D_Descent_stockNearest 2 rfl) rfl ?_
  obtain ⟨q1, e1, h⟩ := Option.bind_eq_some_iff.mp h
  refine j_cVi (c_Descent_stockOf (ha1) (wr_lit rfl) e1) rfl lk_Descent_51 mok_Descent_stockOf kd_30 lc_30 rfl (by decide) rfl rfl (Nat.le_of_ble_eq_true rfl) (D_Descent_stockNearest 3 rfl) (fun w1 => ?_)
  refine j_istoren (L' := [(2, vi q1), (0, rf X 30), (1, vi a1)]) (D_Descent_stockNearest 4 rfl) rfl (w1) (by decide) rfl ?_
  refine j_iloadn (k := 2) (D_Descent_stockNearest 5 rfl) rfl rfl ?_
  refine j_istoren (L' := [(3, vi a1), (2, vi q1), (0, rf X 30), (1, vi a1)]) (D_Descent_stockNearest 6 rfl) rfl (ha1) (by decide) rfl ?_
  refine j_iconst (v := 0) (D_Descent_stockNearest 7 rfl) rfl ?_
  refine j_istore (L' := [(4, vi 0), (3, vi a1), (2, vi q1), (0, rf X 30), (1, vi a1)]) (D_Descent_stockNearest 8 rfl) (wr_lit rfl) (by decide) rfl ?_
  refine j_loc [3, 2, 1, 0] rfl ?_
  exact s_Descent_stockNearest_L12 FU (w1) (ha1) (wr_lit rfl) h
abbrev M_Descent_lay : MI := (⟨"InquestHall$Descent", "lay", "(III)V"⟩, prog_2_method_6_code, 6, none)
theorem cw_Descent_lay : Cond.code M_Descent_lay.1 M_Descent_lay.2.1 M_Descent_lay.2.2.1 M_Descent_lay.2.2.2 ∈ TS := mTS (List.mem_of_getElem? (i := 935) (by decide +kernel)) (by decide +kernel)
theorem fa_Descent_17 : FA "InquestHall$Descent" 17 7 5 true (.array .int) := ⟨_, _, _, _, ok_Descent, by decide, mTS (List.mem_of_getElem? (i := 431) (by decide +kernel)) (by decide +kernel), rfl, rfl⟩
theorem fx_30_5 {G : GS} (w : WF true NC G) : G.2.2 30 5 = 32 := w.2 rfl (30, 5, 32) (by decide)
theorem lk_Descent_59 : Cond.methodLink "InquestHall$Descent" 59 M_Descent_stockNearest.1 ∈ TS := mTS (List.mem_of_getElem? (i := 961) (by decide +kernel)) (by decide +kernel)
theorem mok_Descent_stockNearest : MOK M_Descent_stockNearest 1 := ⟨mTS (List.mem_of_getElem? (i := 963) (by decide +kernel)) (by decide +kernel), mTS (List.mem_of_getElem? (i := 29) (by decide +kernel)) (by decide +kernel), mTS (List.mem_of_getElem? (i := 134) (by decide +kernel)) (by decide +kernel), cw_Descent_stockNearest, ⟨by decide, by decide, by decide +kernel⟩, by decide +kernel, by decide⟩
theorem kd_32 : kd 32 = (0, 33) := rfl
theorem lc_32 : 32 < NC := by decide
theorem lk_Descent_55 : Cond.methodLink "InquestHall$Descent" 55 M_Descent_lineThrough.1 ∈ TS := mTS (List.mem_of_getElem? (i := 944) (by decide +kernel)) (by decide +kernel)
theorem mok_Descent_lineThrough : MOK M_Descent_lineThrough 1 := ⟨mTS (List.mem_of_getElem? (i := 946) (by decide +kernel)) (by decide +kernel), mTS (List.mem_of_getElem? (i := 26) (by decide +kernel)) (by decide +kernel), mTS (List.mem_of_getElem? (i := 134) (by decide +kernel)) (by decide +kernel), cw_Descent_lineThrough, ⟨by decide, by decide, by decide +kernel⟩, by decide +kernel, by decide⟩
theorem fa_Descent_44 : FA "InquestHall$Descent" 44 1 0 true (.array .int) := ⟨_, _, _, _, ok_People, by decide, mTS (List.mem_of_getElem? (i := 157) (by decide +kernel)) (by decide +kernel), rfl, rfl⟩
theorem lk_Descent_47 : Cond.methodLink "InquestHall$Descent" 47 M_People_isAlive.1 ∈ TS := mTS (List.mem_of_getElem? (i := 936) (by decide +kernel)) (by decide +kernel)
theorem mok_People_isAlive : MOK M_People_isAlive 2 := ⟨mTS (List.mem_of_getElem? (i := 937) (by decide +kernel)) (by decide +kernel), mTS (List.mem_of_getElem? (i := 938) (by decide +kernel)) (by decide +kernel), mTS (List.mem_of_getElem? (i := 123) (by decide +kernel)) (by decide +kernel), cw_People_isAlive, ⟨by decide, by decide, by decide +kernel⟩, by decide +kernel, by decide⟩
def tb_Descent_lay : List (Nat × Instr × Nat) := [(0, .aload_n 0, 1), (1, .iload_n 2, 1), (2, .putfield 35, 3), (5, .aload_n 0, 1), (6, .iload_n 3, 1), (7, .putfield 38, 3), (10, .aload_n 0, 1), (11, .iconst 0, 1), (12, .putfield 41, 3), (15, .aload_n 0, 1), (16, .getfield 27, 3), (19, .getfield 31, 3), (22, .iconst 1, 1), (23, .isub, 1), (24, .istore 4, 2), (26, .iload 4, 2), (28, .ifCond .lt 107, 3), (31, .aload_n 0, 1), (32, .dup, 1), (33, .getfield 41, 3), (36, .aload_n 0, 1), (37, .getfield 27, 3), (40, .getfield 44, 3), (43, .iload 4, 2), (45, .iaload, 1), (46, .ifCond .ne 10, 3), (49, .iconst 1, 1), (50, .iload 4, 2), (52, .ishl, 1), (53, .goto 4, 3), (56, .iconst 0, 1), (57, .ior, 1), (58, .putfield 41, 3), (61, .aload_n 0, 1), (62, .getfield 27, 3), (65, .iload 4, 2), (67, .aload_n 0, 1), (68, .getfield 35, 3), (71, .invokevirtual 47, 3), (74, .istore 5, 2), (76, .aload_n 0, 1), (77, .getfield 17, 3), (80, .iload 4, 2), (82, .iload 5, 2), (84, .ifCond .eq 7, 3), (87, .iconst 0, 1), (88, .goto 10, 3), (91, .aload_n 0, 1), (92, .iload 4, 2), (94, .iconst (-1), 1), (95, .invokevirtual 51, 3), (98, .iastore, 1), (99, .aload_n 0, 1), (100, .getfield 11, 3), (103, .iload 4, 2), (105, .iload 5, 2), (107, .ifCond .eq 10, 3), (110, .iconst 1, 1), (111, .iload 4, 2), (113, .ishl, 1), (114, .goto 14, 3), (117, .aload_n 0, 1), (118, .aload_n 0, 1), (119, .getfield 17, 3), (122, .iload 4, 2), (124, .iaload, 1), (125, .invokevirtual 55, 3), (128, .iastore, 1), (129, .iinc 4 (-1), 3), (132, .goto (-106), 3), (135, .aload_n 0, 1), (136, .getfield 17, 3), (139, .bipush 32, 2), (141, .aload_n 0, 1), (142, .iload_n 1, 1), (143, .invokevirtual 59, 3), (146, .iastore, 1), (147, .aload_n 0, 1), (148, .getfield 11, 3), (151, .bipush 32, 2), (153, .aload_n 0, 1), (154, .aload_n 0, 1), (155, .getfield 17, 3), (158, .bipush 32, 2), (160, .iaload, 1), (161, .invokevirtual 55, 3), (164, .iastore, 1), (165, .return_, 1)]
theorem D_Descent_lay (i : Nat) {pc len : Nat} {ins : Instr} (hi : tb_Descent_lay[i]? = some (pc, ins, len)) : decode M_Descent_lay.2.1 pc = .ok (ins, len) := dec_of (by decide +kernel) i hi
def f_Descent_lay_L128 (k26 : GS → Int → Int → Option (GS)) (G : GS) (x1 : Int) (x4 : Int) (s0 : Int) (s1 : Int) : Option (GS) :=
  gd (0 ≤ s1 ∧ s1 < 33) <|
  wG (si G 31 s1.toNat s0) fun G1 =>
  k26 G1 x1 (wr (x4 + (-1)))
theorem s_Descent_lay_L128 {X : XT} {r : GS} {k26 : GS → Int → Int → Option (GS)} (hk26 : ∀ {G : GS} {x1 : Int} {x4 : Int} , wr x1 = x1 → wr x4 = x4 → k26 G x1 x4 = some r → J X true 11 0 0 M_Descent_lay (Rv r) NC 0 0 26 [(0, rf X 30), (1, vi x1), (4, vi x4)] [] G) : ∀ {G : GS} {x1 : Int} {x4 : Int} {s0 : Int} {s1 : Int}, wr x1 = x1 → wr x4 = x4 → wr s0 = s0 → wr s1 = s1 → f_Descent_lay_L128 k26 G x1 x4 s0 s1 = some r → J X true 11 0 0 M_Descent_lay (Rv r) NC 0 0 128 [(0, rf X 30), (1, vi x1), (4, vi x4)] [vi s0, vi s1, rf X 31] G := by
  intro G x1 x4 s0 s1 hx1 hx4 hs0 hs1 h
  unfold f_Descent_lay_L128 at h
  have g1 := gd_c h
  replace h := gd_s h
  refine j_iast (NI := 33) (D_Descent_lay 67 rfl) kd_31 lc_31 (hs1) rfl g1.1 g1.2 ?_
  refine j_gen (fun G1 e1 => ?_)
  replace h := wG_at h e1
  refine j_iinc (k := 2) (L' := [(4, vi (wr (x4 + (-1)))), (0, rf X 30), (1, vi x1)]) (D_Descent_lay 68 rfl) rfl rfl (by decide) rfl ?_
  refine j_goto (tgt := 26) (D_Descent_lay 69 rfl) rfl ?_
  refine j_loc [1, 2, 0] rfl ?_
  exact hk26 (hx1) (wr_wr _) h
def f_Descent_lay_L98 (k26 : GS → Int → Int → Option (GS)) (G : GS) (x1 : Int) (x4 : Int) (x5 : Int) (s0 : Int) (s1 : Int) : Option (GS) :=
  gd (0 ≤ s1 ∧ s1 < 33) <|
  wG (si G 32 s1.toNat s0) fun G1 =>
  if x5 = 0 then
    gd (0 ≤ x4 ∧ x4 < 33) <|
    (f_Descent_lineThrough G1 (gi G1 32 x4.toNat)).bind fun q1 =>
    f_Descent_lay_L128 k26 G1 x1 x4 q1 x4
  else
    f_Descent_lay_L128 k26 G1 x1 x4 (bShl 1 x4) x4
theorem s_Descent_lay_L98 {X : XT} {r : GS} {k26 : GS → Int → Int → Option (GS)} (hk26 : ∀ {G : GS} {x1 : Int} {x4 : Int} , wr x1 = x1 → wr x4 = x4 → k26 G x1 x4 = some r → J X true 11 0 0 M_Descent_lay (Rv r) NC 0 0 26 [(0, rf X 30), (1, vi x1), (4, vi x4)] [] G) : ∀ {G : GS} {x1 : Int} {x4 : Int} {x5 : Int} {s0 : Int} {s1 : Int}, wr x1 = x1 → wr x4 = x4 → wr x5 = x5 → wr s0 = s0 → wr s1 = s1 → f_Descent_lay_L98 k26 G x1 x4 x5 s0 s1 = some r → J X true 11 0 0 M_Descent_lay (Rv r) NC 0 0 98 [(0, rf X 30), (1, vi x1), (4, vi x4), (5, vi x5)] [vi s0, vi s1, rf X 32] G := by
  intro G x1 x4 x5 s0 s1 hx1 hx4 hx5 hs0 hs1 h
  unfold f_Descent_lay_L98 at h
  have g1 := gd_c h
  replace h := gd_s h
  refine j_iast (NI := 33) (D_Descent_lay 51 rfl) kd_32 lc_32 (hs1) rfl g1.1 g1.2 ?_
  refine j_gen (fun G1 e1 => ?_)
  replace h := wG_at h e1
  refine j_aloadn (k := 0) (D_Descent_lay 52 rfl) rfl rfl ?_
  refine j_getR rfl fa_Descent_11 kd_30 lc_30 (by decide) rfl fx_30_4 (by decide) (D_Descent_lay 53 rfl) ?_
  refine j_iload (k := 2) (D_Descent_lay 54 rfl) rfl ?_
  refine j_iload (k := 3) (D_Descent_lay 55 rfl) rfl ?_
  refine j_if_eq (tgt := 117) (D_Descent_lay 56 rfl) rfl (hx5) (fun c1 => ?_) (fun c1 => ?_)
  · replace h := ite_t h c1
    refine j_aloadn (k := 0) (D_Descent_lay 61 rfl) rfl rfl ?_
    refine j_aloadn (k := 0) (D_Descent_lay 62 rfl) rfl rfl ?_
    refine j_getR rfl fa_Descent_17 kd_30 lc_30 (by decide) rfl fx_30_5 (by decide) (D_Descent_lay 63 rfl) ?_
    refine j_iload (k := 2) (D_Descent_lay 64 rfl) rfl ?_
    have g2 := gd_c h
    replace h := gd_s h
    refine j_iald (NI := 33) (D_Descent_lay 65 rfl) kd_32 lc_32 (hx4) rfl g2.1 g2.2 ?_
    obtain ⟨q1, e2, h⟩ := Option.bind_eq_some_iff.mp h
    refine j_cVi (c_Descent_lineThrough (wr_gi _ _ _) e2) rfl lk_Descent_55 mok_Descent_lineThrough kd_30 lc_30 rfl (by decide) rfl rfl (Nat.le_of_ble_eq_true rfl) (D_Descent_lay 66 rfl) (fun w1 => ?_)
    refine j_loc [0, 1, 2] rfl ?_
    exact s_Descent_lay_L128 hk26 (hx1) (hx4) (w1) (hx4) h
  · replace h := ite_f h c1
    refine j_iconst (v := 1) (D_Descent_lay 57 rfl) rfl ?_
    refine j_iload (k := 2) (D_Descent_lay 58 rfl) rfl ?_
    refine j_ishl (D_Descent_lay 59 rfl) ?_
    refine j_goto (tgt := 128) (D_Descent_lay 60 rfl) rfl ?_
    refine j_loc [0, 1, 2] rfl ?_
    exact s_Descent_lay_L128 hk26 (hx1) (hx4) (wr_bShl _ _) (hx4) h
def f_Descent_lay_L57 (k26 : GS → Int → Int → Option (GS)) (G : GS) (x1 : Int) (x4 : Int) (s0 : Int) (s1 : Int) : Option (GS) :=
  wG (si G 30 3 (bOr s1 s0)) fun G1 =>
  (f_People_isAlive G1 x4 (gi G1 30 1)).bind fun q1 =>
  if q1 = 0 then
    (f_Descent_stockOf G1 x4 (-1)).bind fun q2 =>
    f_Descent_lay_L98 k26 G1 x1 x4 q1 q2 x4
  else
    f_Descent_lay_L98 k26 G1 x1 x4 q1 0 x4
theorem s_Descent_lay_L57 {X : XT} {r : GS} {k26 : GS → Int → Int → Option (GS)} (hk26 : ∀ {G : GS} {x1 : Int} {x4 : Int} , wr x1 = x1 → wr x4 = x4 → k26 G x1 x4 = some r → J X true 11 0 0 M_Descent_lay (Rv r) NC 0 0 26 [(0, rf X 30), (1, vi x1), (4, vi x4)] [] G) : ∀ {G : GS} {x1 : Int} {x4 : Int} {s0 : Int} {s1 : Int}, wr x1 = x1 → wr x4 = x4 → wr s0 = s0 → wr s1 = s1 → f_Descent_lay_L57 k26 G x1 x4 s0 s1 = some r → J X true 11 0 0 M_Descent_lay (Rv r) NC 0 0 57 [(0, rf X 30), (1, vi x1), (4, vi x4)] [vi s0, vi s1, rf X 30] G := by
  intro G x1 x4 s0 s1 hx1 hx4 hs0 hs1 h
  unfold f_Descent_lay_L57 at h
  refine j_ior (D_Descent_lay 31 rfl) ?_
  refine j_putI rfl fa_Descent_41 kd_30 lc_30 (by decide) rfl (D_Descent_lay 32 rfl) ?_
  refine j_gen (fun G1 e1 => ?_)
  replace h := wG_at h e1
  refine j_aloadn (k := 0) (D_Descent_lay 33 rfl) rfl rfl ?_
  refine j_getR rfl fa_Descent_27 kd_30 lc_30 (by decide) rfl fx_30_0 (by decide) (D_Descent_lay 34 rfl) ?_
  refine j_iload (k := 2) (D_Descent_lay 35 rfl) rfl ?_
  refine j_aloadn (k := 0) (D_Descent_lay 36 rfl) rfl rfl ?_
  refine j_getI rfl fa_Descent_35 kd_30 lc_30 (by decide) rfl (D_Descent_lay 37 rfl) ?_
  obtain ⟨q1, e2, h⟩ := Option.bind_eq_some_iff.mp h
  refine j_cVz (c_People_isAlive (hx4) (wr_gi _ _ _) e2) rfl lk_Descent_47 mok_People_isAlive kd_1 lc_1 rfl (by decide) rfl rfl (Nat.le_of_ble_eq_true rfl) (D_Descent_lay 38 rfl) (fun w1 bw1 => ?_)
  refine j_istore (L' := [(5, vi q1), (0, rf X 30), (1, vi x1), (4, vi x4)]) (D_Descent_lay 39 rfl) (w1) (by decide) rfl ?_
  refine j_aloadn (k := 1) (D_Descent_lay 40 rfl) rfl rfl ?_
  refine j_getR rfl fa_Descent_17 kd_30 lc_30 (by decide) rfl fx_30_5 (by decide) (D_Descent_lay 41 rfl) ?_
  refine j_iload (k := 3) (D_Descent_lay 42 rfl) rfl ?_
  refine j_iload (k := 0) (D_Descent_lay 43 rfl) rfl ?_
  refine j_if_eq (tgt := 91) (D_Descent_lay 44 rfl) rfl (w1) (fun c1 => ?_) (fun c1 => ?_)
  · replace h := ite_t h c1
    refine j_aloadn (k := 1) (D_Descent_lay 47 rfl) rfl rfl ?_
    refine j_iload (k := 3) (D_Descent_lay 48 rfl) rfl ?_
    refine j_iconst (v := (-1)) (D_Descent_lay 49 rfl) rfl ?_
    obtain ⟨q2, e3, h⟩ := Option.bind_eq_some_iff.mp h
    refine j_cVi (c_Descent_stockOf (hx4) (wr_lit rfl) e3) rfl lk_Descent_51 mok_Descent_stockOf kd_30 lc_30 rfl (by decide) rfl rfl (Nat.le_of_ble_eq_true rfl) (D_Descent_lay 50 rfl) (fun w2 => ?_)
    refine j_loc [1, 2, 3, 0] rfl ?_
    exact s_Descent_lay_L98 hk26 (hx1) (hx4) (w1) (w2) (hx4) h
  · replace h := ite_f h c1
    refine j_iconst (v := 0) (D_Descent_lay 45 rfl) rfl ?_
    refine j_goto (tgt := 98) (D_Descent_lay 46 rfl) rfl ?_
    refine j_loc [1, 2, 3, 0] rfl ?_
    exact s_Descent_lay_L98 hk26 (hx1) (hx4) (w1) (wr_lit rfl) (hx4) h
def f_Descent_lay_L26 : Nat → GS → Int → Int → Option (GS)
  | 0, _, _, _ => none
  | n + 1, G, x1, x4 =>
    if x4 < 0 then
      (f_Descent_stockNearest G x1).bind fun q1 =>
      wG (si G 32 32 q1) fun G1 =>
      (f_Descent_lineThrough G1 (gi G1 32 32)).bind fun q2 =>
      wG (si G1 31 32 q2) fun G2 =>
      some G2
    else
      gd (0 ≤ x4 ∧ x4 < 32) <|
      if gi G 2 x4.toNat = 0 then
        f_Descent_lay_L57 (f_Descent_lay_L26 n) G x1 x4 (bShl 1 x4) (gi G 30 3)
      else
        f_Descent_lay_L57 (f_Descent_lay_L26 n) G x1 x4 0 (gi G 30 3)
theorem s_Descent_lay_L26 {X : XT} {r : GS} : ∀ (n : Nat) {G : GS} {x1 : Int} {x4 : Int}, wr x1 = x1 → wr x4 = x4 → f_Descent_lay_L26 n G x1 x4 = some r → J X true 11 0 0 M_Descent_lay (Rv r) NC 0 0 26 [(0, rf X 30), (1, vi x1), (4, vi x4)] [] G := by
  intro n
  induction n with
  | zero =>
    intro G x1 x4 hx1 hx4 h
    exact none_some h
  | succ n ih =>
    intro G x1 x4 hx1 hx4 h
    rw [f_Descent_lay_L26] at h
    refine j_iload (k := 2) (D_Descent_lay 15 rfl) rfl ?_
    refine j_if_lt (tgt := 135) (D_Descent_lay 16 rfl) rfl (hx4) (fun c1 => ?_) (fun c1 => ?_)
    · replace h := ite_t h c1
      refine j_aloadn (k := 0) (D_Descent_lay 70 rfl) rfl rfl ?_
      refine j_getR rfl fa_Descent_17 kd_30 lc_30 (by decide) rfl fx_30_5 (by decide) (D_Descent_lay 71 rfl) ?_
      refine j_bipush (v := 32) (D_Descent_lay 72 rfl) rfl ?_
      refine j_aloadn (k := 0) (D_Descent_lay 73 rfl) rfl rfl ?_
      refine j_iloadn (k := 1) (D_Descent_lay 74 rfl) rfl rfl ?_
      obtain ⟨q1, e1, h⟩ := Option.bind_eq_some_iff.mp h
      refine j_cVi (c_Descent_stockNearest (hx1) e1) rfl lk_Descent_59 mok_Descent_stockNearest kd_30 lc_30 rfl (by decide) rfl rfl (Nat.le_of_ble_eq_true rfl) (D_Descent_lay 75 rfl) (fun w1 => ?_)
      refine j_iast (NI := 33) (D_Descent_lay 76 rfl) kd_32 lc_32 (wr_lit rfl) rfl (by decide) (by decide) ?_
      refine j_gen (fun G1 e2 => ?_)
      replace h := wG_at h e2
      refine j_aloadn (k := 0) (D_Descent_lay 77 rfl) rfl rfl ?_
      refine j_getR rfl fa_Descent_11 kd_30 lc_30 (by decide) rfl fx_30_4 (by decide) (D_Descent_lay 78 rfl) ?_
      refine j_bipush (v := 32) (D_Descent_lay 79 rfl) rfl ?_
      refine j_aloadn (k := 0) (D_Descent_lay 80 rfl) rfl rfl ?_
      refine j_aloadn (k := 0) (D_Descent_lay 81 rfl) rfl rfl ?_
      refine j_getR rfl fa_Descent_17 kd_30 lc_30 (by decide) rfl fx_30_5 (by decide) (D_Descent_lay 82 rfl) ?_
      refine j_bipush (v := 32) (D_Descent_lay 83 rfl) rfl ?_
      refine j_iald (NI := 33) (D_Descent_lay 84 rfl) kd_32 lc_32 (wr_lit rfl) rfl (by decide) (by decide) ?_
      obtain ⟨q2, e3, h⟩ := Option.bind_eq_some_iff.mp h
      refine j_cVi (c_Descent_lineThrough (wr_gi _ _ _) e3) rfl lk_Descent_55 mok_Descent_lineThrough kd_30 lc_30 rfl (by decide) rfl rfl (Nat.le_of_ble_eq_true rfl) (D_Descent_lay 85 rfl) (fun w2 => ?_)
      refine j_iast (NI := 33) (D_Descent_lay 86 rfl) kd_31 lc_31 (wr_lit rfl) rfl (by decide) (by decide) ?_
      refine j_gen (fun G2 e4 => ?_)
      replace h := wG_at h e4
      exact j_vret (D_Descent_lay 87 rfl) rfl rfl rfl (leafV h)
    · replace h := ite_f h c1
      refine j_aloadn (k := 0) (D_Descent_lay 17 rfl) rfl rfl ?_
      refine j_dup (D_Descent_lay 18 rfl) rfl ?_
      refine j_getI rfl fa_Descent_41 kd_30 lc_30 (by decide) rfl (D_Descent_lay 19 rfl) ?_
      refine j_aloadn (k := 0) (D_Descent_lay 20 rfl) rfl rfl ?_
      refine j_getR rfl fa_Descent_27 kd_30 lc_30 (by decide) rfl fx_30_0 (by decide) (D_Descent_lay 21 rfl) ?_
      refine j_getR rfl fa_Descent_44 kd_1 lc_1 (by decide) rfl fx_1_0 (by decide) (D_Descent_lay 22 rfl) ?_
      refine j_iload (k := 2) (D_Descent_lay 23 rfl) rfl ?_
      have g1 := gd_c h
      replace h := gd_s h
      refine j_iald (NI := 32) (D_Descent_lay 24 rfl) kd_2 lc_2 (hx4) rfl g1.1 g1.2 ?_
      refine j_if_ne (tgt := 56) (D_Descent_lay 25 rfl) rfl (wr_gi _ _ _) (fun c2 => ?_) (fun c2 => ?_)
      · replace h := ite_f h c2
        refine j_iconst (v := 0) (D_Descent_lay 30 rfl) rfl ?_
        refine j_loc [0, 1, 2] rfl ?_
        exact s_Descent_lay_L57 ih (hx1) (hx4) (wr_lit rfl) (wr_gi _ _ _) h
      · replace h := ite_t h c2
        refine j_iconst (v := 1) (D_Descent_lay 26 rfl) rfl ?_
        refine j_iload (k := 2) (D_Descent_lay 27 rfl) rfl ?_
        refine j_ishl (D_Descent_lay 28 rfl) ?_
        refine j_goto (tgt := 57) (D_Descent_lay 29 rfl) rfl ?_
        refine j_loc [0, 1, 2] rfl ?_
        exact s_Descent_lay_L57 ih (hx1) (hx4) (wr_bShl _ _) (wr_gi _ _ _) h
def f_Descent_lay (G : GS) (a1 : Int) (a2 : Int) (a3 : Int) : Option (GS) :=
  wG (si G 30 1 a2) fun G1 =>
  wG (si G1 30 2 a3) fun G2 =>
  wG (si G2 30 3 0) fun G3 =>
  f_Descent_lay_L26 FU G3 a1 (wr ((gi G3 1 7) - 1))
theorem c_Descent_lay {X : XT} {G : GS} {a1 : Int} {a2 : Int} {a3 : Int} {r : GS} (ha1 : wr a1 = a1) (ha2 : wr a2 = a2) (ha3 : wr a3 = a3) (h : f_Descent_lay G a1 a2 a3 = some r) : Call X true 11 0 0 M_Descent_lay [rf X 30, vi a1, vi a2, vi a3] NC G (Rv r) := by
  refine Call_of_J cw_Descent_lay (by decide +kernel) (Nat.le_of_ble_eq_true rfl) ?_
  unfold f_Descent_lay at h
  show J X true 11 0 0 M_Descent_lay (Rv r) NC 0 0 0 [(0, rf X 30), (1, vi a1), (2, vi a2), (3, vi a3)] [] G
  refine j_aloadn (k := 0) (D_Descent_lay 0 rfl) rfl rfl ?_
  refine j_iloadn (k := 2) (D_Descent_lay 1 rfl) rfl rfl ?_
  refine j_putI rfl fa_Descent_35 kd_30 lc_30 (by decide) rfl (D_Descent_lay 2 rfl) ?_
  refine j_gen (fun G1 e1 => ?_)
  replace h := wG_at h e1
  refine j_aloadn (k := 0) (D_Descent_lay 3 rfl) rfl rfl ?_
  refine j_iloadn (k := 3) (D_Descent_lay 4 rfl) rfl rfl ?_
  refine j_putI rfl fa_Descent_38 kd_30 lc_30 (by decide) rfl (D_Descent_lay 5 rfl) ?_
  refine j_gen (fun G2 e2 => ?_)
  replace h := wG_at h e2
  refine j_aloadn (k := 0) (D_Descent_lay 6 rfl) rfl rfl ?_
  refine j_iconst (v := 0) (D_Descent_lay 7 rfl) rfl ?_
  refine j_putI rfl fa_Descent_41 kd_30 lc_30 (by decide) rfl (D_Descent_lay 8 rfl) ?_
  refine j_gen (fun G3 e3 => ?_)
  replace h := wG_at h e3
  refine j_aloadn (k := 0) (D_Descent_lay 9 rfl) rfl rfl ?_
  refine j_getR rfl fa_Descent_27 kd_30 lc_30 (by decide) rfl fx_30_0 (by decide) (D_Descent_lay 10 rfl) ?_
  refine j_getI rfl fa_Descent_31 kd_1 lc_1 (by decide) rfl (D_Descent_lay 11 rfl) ?_
  refine j_iconst (v := 1) (D_Descent_lay 12 rfl) rfl ?_
  refine j_isub (D_Descent_lay 13 rfl) ?_
  refine j_istore (L' := [(4, vi (wr ((gi G3 1 7) - 1))), (0, rf X 30), (1, vi a1), (2, vi a2), (3, vi a3)]) (D_Descent_lay 14 rfl) (rfl) (by decide) rfl ?_
  refine j_loc [1, 2, 0] rfl ?_
  exact s_Descent_lay_L26 FU (ha1) (wr_wr _) h
abbrev M_Hall_layDescent : MI := (⟨"InquestHall", "layDescent", "(II)Z"⟩, prog_1_method_39_code, 4, (some .boolean))
theorem cw_Hall_layDescent : Cond.code M_Hall_layDescent.1 M_Hall_layDescent.2.1 M_Hall_layDescent.2.2.1 M_Hall_layDescent.2.2.2 ∈ TS := mTS (List.mem_of_getElem? (i := 931) (by decide +kernel)) (by decide +kernel)
theorem fa_Hall_60 : FA "InquestHall" 60 0 6 true (.object "InquestHall$Descent") := ⟨_, _, _, _, ok_Hall, by decide, mTS (List.mem_of_getElem? (i := 598) (by decide +kernel)) (by decide +kernel), rfl, rfl⟩
theorem fx_0_6 {G : GS} (w : WF true NC G) : G.2.2 0 6 = 30 := w.2 rfl (0, 6, 30) (by decide)
theorem fa_Hall_349 : FA "InquestHall" 349 11 0 true (.array .int) := ⟨_, _, _, _, ok_Law, by decide, mTS (List.mem_of_getElem? (i := 545) (by decide +kernel)) (by decide +kernel), rfl, rfl⟩
theorem fa_Hall_352 : FA "InquestHall" 352 2 0 true (.array .int) := ⟨_, _, _, _, ok_Lands, by decide, mTS (List.mem_of_getElem? (i := 201) (by decide +kernel)) (by decide +kernel), rfl, rfl⟩
theorem lk_Hall_355 : Cond.methodLink "InquestHall" 355 M_Descent_lay.1 ∈ TS := mTS (List.mem_of_getElem? (i := 932) (by decide +kernel)) (by decide +kernel)
theorem mok_Descent_lay : MOK M_Descent_lay 3 := ⟨mTS (List.mem_of_getElem? (i := 933) (by decide +kernel)) (by decide +kernel), mTS (List.mem_of_getElem? (i := 934) (by decide +kernel)) (by decide +kernel), mTS (List.mem_of_getElem? (i := 134) (by decide +kernel)) (by decide +kernel), cw_Descent_lay, ⟨by decide, by decide, by decide +kernel⟩, by decide +kernel, by decide⟩
def tb_Hall_layDescent : List (Nat × Instr × Nat) := [(0, .aload_n 0, 1), (1, .getfield 12, 3), (4, .iload_n 1, 1), (5, .invokevirtual 125, 3), (8, .ifCond .eq 14, 3), (11, .aload_n 0, 1), (12, .getfield 19, 3), (15, .iload_n 2, 1), (16, .invokevirtual 150, 3), (19, .ifCond .ne 5, 3), (22, .iconst 0, 1), (23, .ireturn, 1), (24, .aload_n 0, 1), (25, .getfield 12, 3), (28, .getfield 131, 3), (31, .iload_n 1, 1), (32, .iaload, 1), (33, .istore_n 3, 1), (34, .aload_n 0, 1), (35, .getfield 60, 3), (38, .iload_n 1, 1), (39, .iload_n 3, 1), (40, .aload_n 0, 1), (41, .iload_n 3, 1), (42, .invokevirtual 185, 3), (45, .getfield 349, 3), (48, .aload_n 0, 1), (49, .getfield 19, 3), (52, .getfield 352, 3), (55, .iload_n 2, 1), (56, .iaload, 1), (57, .iaload, 1), (58, .invokevirtual 355, 3), (61, .iconst 1, 1), (62, .ireturn, 1)]
theorem D_Hall_layDescent (i : Nat) {pc len : Nat} {ins : Instr} (hi : tb_Hall_layDescent[i]? = some (pc, ins, len)) : decode M_Hall_layDescent.2.1 pc = .ok (ins, len) := dec_of (by decide +kernel) i hi
def f_Hall_layDescent (G : GS) (a1 : Int) (a2 : Int) : Option (Int × GS) :=
  (f_People_isDead G a1).bind fun q1 =>
  if q1 = 0 then
    some (0, G)
  else
    (f_Lands_has G a2).bind fun q2 =>
    if q2 = 0 then
      some (0, G)
    else
      gd (0 ≤ a1 ∧ a1 < 32) <|
      (f_Hall_lawAt G (gi G 7 a1.toNat)).bind fun q3 =>
      gd (0 ≤ a2 ∧ a2 < 12) <|
      gd (0 ≤ gi G 10 a2.toNat ∧ gi G 10 a2.toNat < 4) <|
      (f_Descent_lay G a1 (gi G 7 a1.toNat) (gi G (q3 + 1) (gi G 10 a2.toNat).toNat)).bind fun q4 =>
      some (1, q4)
theorem c_Hall_layDescent {X : XT} {G : GS} {a1 : Int} {a2 : Int} {r : Int × GS} (ha1 : wr a1 = a1) (ha2 : wr a2 = a2) (h : f_Hall_layDescent G a1 a2 = some r) : Call X true 12 0 0 M_Hall_layDescent [rf X 0, vi a1, vi a2] NC G (Rz r.1 r.2) := by
  refine Call_of_J cw_Hall_layDescent (by decide +kernel) (Nat.le_of_ble_eq_true rfl) ?_
  unfold f_Hall_layDescent at h
  show J X true 12 0 0 M_Hall_layDescent (Rz r.1 r.2) NC 0 0 0 [(0, rf X 0), (1, vi a1), (2, vi a2)] [] G
  refine j_aloadn (k := 0) (D_Hall_layDescent 0 rfl) rfl rfl ?_
  refine j_getR rfl fa_Hall_12 kd_0 lc_0 (by decide) rfl fx_0_0 (by decide) (D_Hall_layDescent 1 rfl) ?_
  refine j_iloadn (k := 1) (D_Hall_layDescent 2 rfl) rfl rfl ?_
  obtain ⟨q1, e1, h⟩ := Option.bind_eq_some_iff.mp h
  refine j_cVz (c_People_isDead (ha1) e1) rfl lk_Hall_125 mok_People_isDead kd_1 lc_1 rfl (by decide) rfl rfl (Nat.le_of_ble_eq_true rfl) (D_Hall_layDescent 3 rfl) (fun w1 bw1 => ?_)
  refine j_if_eq (tgt := 22) (D_Hall_layDescent 4 rfl) rfl (w1) (fun c1 => ?_) (fun c1 => ?_)
  · replace h := ite_t h c1
    refine j_iconst (v := 0) (D_Hall_layDescent 10 rfl) rfl ?_
    exact j_zret (D_Hall_layDescent 11 rfl) rfl (wr_lit rfl) (nz_01 (by decide)) rfl rfl (leafZ h (wr_n (wr_lit rfl)) (by decide))
  · replace h := ite_f h c1
    refine j_aloadn (k := 0) (D_Hall_layDescent 5 rfl) rfl rfl ?_
    refine j_getR rfl fa_Hall_19 kd_0 lc_0 (by decide) rfl fx_0_1 (by decide) (D_Hall_layDescent 6 rfl) ?_
    refine j_iloadn (k := 2) (D_Hall_layDescent 7 rfl) rfl rfl ?_
    obtain ⟨q2, e2, h⟩ := Option.bind_eq_some_iff.mp h
    refine j_cVz (c_Lands_has (ha2) e2) rfl lk_Hall_150 mok_Lands_has kd_9 lc_9 rfl (by decide) rfl rfl (Nat.le_of_ble_eq_true rfl) (D_Hall_layDescent 8 rfl) (fun w2 bw2 => ?_)
    refine j_if_ne (tgt := 24) (D_Hall_layDescent 9 rfl) rfl (w2) (fun c2 => ?_) (fun c2 => ?_)
    · replace h := ite_f h c2
      refine j_aloadn (k := 0) (D_Hall_layDescent 12 rfl) rfl rfl ?_
      refine j_getR rfl fa_Hall_12 kd_0 lc_0 (by decide) rfl fx_0_0 (by decide) (D_Hall_layDescent 13 rfl) ?_
      refine j_getR rfl fa_Hall_131 kd_1 lc_1 (by decide) rfl fx_1_5 (by decide) (D_Hall_layDescent 14 rfl) ?_
      refine j_iloadn (k := 1) (D_Hall_layDescent 15 rfl) rfl rfl ?_
      have g1 := gd_c h
      replace h := gd_s h
      refine j_iald (NI := 32) (D_Hall_layDescent 16 rfl) kd_7 lc_7 (ha1) rfl g1.1 g1.2 ?_
      refine j_istoren (L' := [(3, vi (gi G 7 a1.toNat)), (0, rf X 0), (1, vi a1), (2, vi a2)]) (D_Hall_layDescent 17 rfl) rfl (wr_gi _ _ _) (by decide) rfl ?_
      refine j_aloadn (k := 1) (D_Hall_layDescent 18 rfl) rfl rfl ?_
      refine j_getR rfl fa_Hall_60 kd_0 lc_0 (by decide) rfl fx_0_6 (by decide) (D_Hall_layDescent 19 rfl) ?_
      refine j_iloadn (k := 2) (D_Hall_layDescent 20 rfl) rfl rfl ?_
      refine j_iloadn (k := 0) (D_Hall_layDescent 21 rfl) rfl rfl ?_
      refine j_aloadn (k := 1) (D_Hall_layDescent 22 rfl) rfl rfl ?_
      refine j_iloadn (k := 0) (D_Hall_layDescent 23 rfl) rfl rfl ?_
      obtain ⟨q3, e3, h⟩ := Option.bind_eq_some_iff.mp h
      refine j_cVr (c_Hall_lawAt (wr_gi _ _ _) e3) rfl lk_Hall_185 mok_Hall_lawAt kd_0 lc_0 rfl (by decide) rfl rfl (Nat.le_of_ble_eq_true rfl) (D_Hall_layDescent 24 rfl) (fun w3 => ?_)
      refine j_getR rfl fa_Hall_349 (law_kd w3).1 (law_kd w3).2.1 (by decide) rfl (fun w => law_fx1 w w3) (by omega) (D_Hall_layDescent 25 rfl) ?_
      refine j_aloadn (k := 1) (D_Hall_layDescent 26 rfl) rfl rfl ?_
      refine j_getR rfl fa_Hall_19 kd_0 lc_0 (by decide) rfl fx_0_1 (by decide) (D_Hall_layDescent 27 rfl) ?_
      refine j_getR rfl fa_Hall_352 kd_9 lc_9 (by decide) rfl fx_9_0 (by decide) (D_Hall_layDescent 28 rfl) ?_
      refine j_iloadn (k := 3) (D_Hall_layDescent 29 rfl) rfl rfl ?_
      have g2 := gd_c h
      replace h := gd_s h
      refine j_iald (NI := 12) (D_Hall_layDescent 30 rfl) kd_10 lc_10 (ha2) rfl g2.1 g2.2 ?_
      have g3 := gd_c h
      replace h := gd_s h
      refine j_iald (NI := 4) (D_Hall_layDescent 31 rfl) (law_kd1 w3).1 (law_kd1 w3).2 (wr_gi _ _ _) rfl g3.1 g3.2 ?_
      obtain ⟨q4, e4, h⟩ := Option.bind_eq_some_iff.mp h
      refine j_cVv (c_Descent_lay (ha1) (wr_gi _ _ _) (wr_gi _ _ _) e4) rfl lk_Hall_355 mok_Descent_lay kd_30 lc_30 rfl (by decide) rfl rfl (Nat.le_of_ble_eq_true rfl) (D_Hall_layDescent 32 rfl) ?_
      refine j_iconst (v := 1) (D_Hall_layDescent 33 rfl) rfl ?_
      exact j_zret (D_Hall_layDescent 34 rfl) rfl (wr_lit rfl) (nz_01 (by decide)) rfl rfl (leafZ h (wr_n (wr_lit rfl)) (by decide))
    · replace h := ite_t h c2
      refine j_iconst (v := 0) (D_Hall_layDescent 10 rfl) rfl ?_
      exact j_zret (D_Hall_layDescent 11 rfl) rfl (wr_lit rfl) (nz_01 (by decide)) rfl rfl (leafZ h (wr_n (wr_lit rfl)) (by decide))
abbrev M_Descent_heirSet : MI := (⟨"InquestHall$Descent", "heirSet", "()I"⟩, prog_2_method_2_code, 1, (some .int))
theorem cw_Descent_heirSet : Cond.code M_Descent_heirSet.1 M_Descent_heirSet.2.1 M_Descent_heirSet.2.2.1 M_Descent_heirSet.2.2.2 ∈ TS := mTS (List.mem_of_getElem? (i := 968) (by decide +kernel)) (by decide +kernel)
def tb_Descent_heirSet : List (Nat × Instr × Nat) := [(0, .aload_n 0, 1), (1, .getfield 11, 3), (4, .bipush 32, 2), (6, .iaload, 1), (7, .ireturn, 1)]
theorem D_Descent_heirSet (i : Nat) {pc len : Nat} {ins : Instr} (hi : tb_Descent_heirSet[i]? = some (pc, ins, len)) : decode M_Descent_heirSet.2.1 pc = .ok (ins, len) := dec_of (by decide +kernel) i hi
def f_Descent_heirSet (G : GS) : Option (Int) :=
  some (gi G 31 32)
theorem c_Descent_heirSet {X : XT} {G : GS} {r : Int} (h : f_Descent_heirSet G = some r) : Call X true 6 0 0 M_Descent_heirSet [rf X 30] NC G (Ri r G) := by
  refine Call_of_J cw_Descent_heirSet (by decide +kernel) (Nat.le_of_ble_eq_true rfl) ?_
  unfold f_Descent_heirSet at h
  show J X true 6 0 0 M_Descent_heirSet (Ri r G) NC 0 0 0 [(0, rf X 30)] [] G
  refine j_aloadn (k := 0) (D_Descent_heirSet 0 rfl) rfl rfl ?_
  refine j_getR rfl fa_Descent_11 kd_30 lc_30 (by decide) rfl fx_30_4 (by decide) (D_Descent_heirSet 1 rfl) ?_
  refine j_bipush (v := 32) (D_Descent_heirSet 2 rfl) rfl ?_
  refine j_iald (NI := 33) (D_Descent_heirSet 3 rfl) kd_31 lc_31 (wr_lit rfl) rfl (by decide) (by decide) ?_
  exact j_iret (D_Descent_heirSet 4 rfl) rfl (wr_gi _ _ _) rfl rfl (leafIo h (wr_n (wr_gi _ _ _)))
abbrev M_Integer_bitCount : MI := (⟨"java/lang/Integer", "bitCount", "(I)I"⟩, prog_15_method_49_code, 1, (some .int))
theorem cw_Integer_bitCount : Cond.code M_Integer_bitCount.1 M_Integer_bitCount.2.1 M_Integer_bitCount.2.2.1 M_Integer_bitCount.2.2.2 ∈ TS := mTS (List.mem_of_getElem? (i := 971) (by decide +kernel)) (by decide +kernel)
theorem ct_Integer_265 : Cond.constant "java/lang/Integer" 265 (1431655765 : Int32) ∈ TS := mTS (List.mem_of_getElem? (i := 972) (by decide +kernel)) (by decide +kernel)
theorem ct_Integer_266 : Cond.constant "java/lang/Integer" 266 (858993459 : Int32) ∈ TS := mTS (List.mem_of_getElem? (i := 973) (by decide +kernel)) (by decide +kernel)
theorem ct_Integer_267 : Cond.constant "java/lang/Integer" 267 (252645135 : Int32) ∈ TS := mTS (List.mem_of_getElem? (i := 974) (by decide +kernel)) (by decide +kernel)
def tb_Integer_bitCount : List (Nat × Instr × Nat) := [(0, .iload_n 0, 1), (1, .iload_n 0, 1), (2, .iconst 1, 1), (3, .iushr, 1), (4, .ldc_w 265, 3), (7, .iand, 1), (8, .isub, 1), (9, .istore_n 0, 1), (10, .iload_n 0, 1), (11, .ldc_w 266, 3), (14, .iand, 1), (15, .iload_n 0, 1), (16, .iconst 2, 1), (17, .iushr, 1), (18, .ldc_w 266, 3), (21, .iand, 1), (22, .iadd, 1), (23, .istore_n 0, 1), (24, .iload_n 0, 1), (25, .iload_n 0, 1), (26, .iconst 4, 1), (27, .iushr, 1), (28, .iadd, 1), (29, .ldc_w 267, 3), (32, .iand, 1), (33, .istore_n 0, 1), (34, .iload_n 0, 1), (35, .iload_n 0, 1), (36, .bipush 8, 2), (38, .iushr, 1), (39, .iadd, 1), (40, .istore_n 0, 1), (41, .iload_n 0, 1), (42, .iload_n 0, 1), (43, .bipush 16, 2), (45, .iushr, 1), (46, .iadd, 1), (47, .istore_n 0, 1), (48, .iload_n 0, 1), (49, .bipush 63, 2), (51, .iand, 1), (52, .ireturn, 1)]
theorem D_Integer_bitCount (i : Nat) {pc len : Nat} {ins : Instr} (hi : tb_Integer_bitCount[i]? = some (pc, ins, len)) : decode M_Integer_bitCount.2.1 pc = .ok (ins, len) := dec_of (by decide +kernel) i hi
def f_Integer_bitCount (G : GS) (a0 : Int) : Option (Int) :=
  some (bAnd (wr ((wr ((bAnd ((wr ((bAnd (wr (a0 - (bAnd (bUshr a0 1) 1431655765))) 858993459) + (bAnd (bUshr (wr (a0 - (bAnd (bUshr a0 1) 1431655765))) 2) 858993459))) + (bUshr (wr ((bAnd (wr (a0 - (bAnd (bUshr a0 1) 1431655765))) 858993459) + (bAnd (bUshr (wr (a0 - (bAnd (bUshr a0 1) 1431655765))) 2) 858993459))) 4)) 252645135) + (bUshr (bAnd ((wr ((bAnd (wr (a0 - (bAnd (bUshr a0 1) 1431655765))) 858993459) + (bAnd (bUshr (wr (a0 - (bAnd (bUshr a0 1) 1431655765))) 2) 858993459))) + (bUshr (wr ((bAnd (wr (a0 - (bAnd (bUshr a0 1) 1431655765))) 858993459) + (bAnd (bUshr (wr (a0 - (bAnd (bUshr a0 1) 1431655765))) 2) 858993459))) 4)) 252645135) 8))) + (bUshr (wr ((bAnd ((wr ((bAnd (wr (a0 - (bAnd (bUshr a0 1) 1431655765))) 858993459) + (bAnd (bUshr (wr (a0 - (bAnd (bUshr a0 1) 1431655765))) 2) 858993459))) + (bUshr (wr ((bAnd (wr (a0 - (bAnd (bUshr a0 1) 1431655765))) 858993459) + (bAnd (bUshr (wr (a0 - (bAnd (bUshr a0 1) 1431655765))) 2) 858993459))) 4)) 252645135) + (bUshr (bAnd ((wr ((bAnd (wr (a0 - (bAnd (bUshr a0 1) 1431655765))) 858993459) + (bAnd (bUshr (wr (a0 - (bAnd (bUshr a0 1) 1431655765))) 2) 858993459))) + (bUshr (wr ((bAnd (wr (a0 - (bAnd (bUshr a0 1) 1431655765))) 858993459) + (bAnd (bUshr (wr (a0 - (bAnd (bUshr a0 1) 1431655765))) 2) 858993459))) 4)) 252645135) 8))) 16))) 63)
theorem c_Integer_bitCount {X : XT} {G : GS} {a0 : Int} {r : Int} (ha0 : wr a0 = a0) (h : f_Integer_bitCount G a0 = some r) : Call X true 6 0 0 M_Integer_bitCount [vi a0] NC G (Ri r G) := by
  refine Call_of_J cw_Integer_bitCount (by decide +kernel) (Nat.le_of_ble_eq_true rfl) ?_
  unfold f_Integer_bitCount at h
  show J X true 6 0 0 M_Integer_bitCount (Ri r G) NC 0 0 0 [(0, vi a0)] [] G
  refine j_iloadn (k := 0) (D_Integer_bitCount 0 rfl) rfl rfl ?_
  refine j_iloadn (k := 0) (D_Integer_bitCount 1 rfl) rfl rfl ?_
  refine j_iconst (v := 1) (D_Integer_bitCount 2 rfl) rfl ?_
  refine j_iushr (D_Integer_bitCount 3 rfl) ?_
  refine j_ldcw (v := 1431655765) rfl ct_Integer_265 (by decide) (D_Integer_bitCount 4 rfl) ?_
  refine j_iand (D_Integer_bitCount 5 rfl) ?_
  refine j_isub (D_Integer_bitCount 6 rfl) ?_
  refine j_istoren (L' := [(0, vi (wr (a0 - (bAnd (bUshr a0 1) 1431655765))))]) (D_Integer_bitCount 7 rfl) rfl (rfl) (by decide) rfl ?_
  refine j_iloadn (k := 0) (D_Integer_bitCount 8 rfl) rfl rfl ?_
  refine j_ldcw (v := 858993459) rfl ct_Integer_266 (by decide) (D_Integer_bitCount 9 rfl) ?_
  refine j_iand (D_Integer_bitCount 10 rfl) ?_
  refine j_iloadn (k := 0) (D_Integer_bitCount 11 rfl) rfl rfl ?_
  refine j_iconst (v := 2) (D_Integer_bitCount 12 rfl) rfl ?_
  refine j_iushr (D_Integer_bitCount 13 rfl) ?_
  refine j_ldcw (v := 858993459) rfl ct_Integer_266 (by decide) (D_Integer_bitCount 14 rfl) ?_
  refine j_iand (D_Integer_bitCount 15 rfl) ?_
  refine j_iadd (D_Integer_bitCount 16 rfl) ?_
  refine j_istoren (L' := [(0, vi (wr ((bAnd (wr (a0 - (bAnd (bUshr a0 1) 1431655765))) 858993459) + (bAnd (bUshr (wr (a0 - (bAnd (bUshr a0 1) 1431655765))) 2) 858993459))))]) (D_Integer_bitCount 17 rfl) rfl (rfl) (by decide) rfl ?_
  refine j_iloadn (k := 0) (D_Integer_bitCount 18 rfl) rfl rfl ?_
  refine j_iloadn (k := 0) (D_Integer_bitCount 19 rfl) rfl rfl ?_
  refine j_iconst (v := 4) (D_Integer_bitCount 20 rfl) rfl ?_
  refine j_iushr (D_Integer_bitCount 21 rfl) ?_
  refine j_iadd (D_Integer_bitCount 22 rfl) ?_
  refine j_ldcw (v := 252645135) rfl ct_Integer_267 (by decide) (D_Integer_bitCount 23 rfl) ?_
  refine j_iand (D_Integer_bitCount 24 rfl) ?_
  refine j_istoren (L' := [(0, vi (bAnd ((wr ((bAnd (wr (a0 - (bAnd (bUshr a0 1) 1431655765))) 858993459) + (bAnd (bUshr (wr (a0 - (bAnd (bUshr a0 1) 1431655765))) 2) 858993459))) + (bUshr (wr ((bAnd (wr (a0 - (bAnd (bUshr a0 1) 1431655765))) 858993459) + (bAnd (bUshr (wr (a0 - (bAnd (bUshr a0 1) 1431655765))) 2) 858993459))) 4)) 252645135))]) (D_Integer_bitCount 25 rfl) rfl (wr_bAnd _ _) (by decide) rfl ?_
  refine j_iloadn (k := 0) (D_Integer_bitCount 26 rfl) rfl rfl ?_
  refine j_iloadn (k := 0) (D_Integer_bitCount 27 rfl) rfl rfl ?_
  refine j_bipush (v := 8) (D_Integer_bitCount 28 rfl) rfl ?_
  refine j_iushr (D_Integer_bitCount 29 rfl) ?_
  refine j_iadd (D_Integer_bitCount 30 rfl) ?_
  refine j_istoren (L' := [(0, vi (wr ((bAnd ((wr ((bAnd (wr (a0 - (bAnd (bUshr a0 1) 1431655765))) 858993459) + (bAnd (bUshr (wr (a0 - (bAnd (bUshr a0 1) 1431655765))) 2) 858993459))) + (bUshr (wr ((bAnd (wr (a0 - (bAnd (bUshr a0 1) 1431655765))) 858993459) + (bAnd (bUshr (wr (a0 - (bAnd (bUshr a0 1) 1431655765))) 2) 858993459))) 4)) 252645135) + (bUshr (bAnd ((wr ((bAnd (wr (a0 - (bAnd (bUshr a0 1) 1431655765))) 858993459) + (bAnd (bUshr (wr (a0 - (bAnd (bUshr a0 1) 1431655765))) 2) 858993459))) + (bUshr (wr ((bAnd (wr (a0 - (bAnd (bUshr a0 1) 1431655765))) 858993459) + (bAnd (bUshr (wr (a0 - (bAnd (bUshr a0 1) 1431655765))) 2) 858993459))) 4)) 252645135) 8))))]) (D_Integer_bitCount 31 rfl) rfl (rfl) (by decide) rfl ?_
  refine j_iloadn (k := 0) (D_Integer_bitCount 32 rfl) rfl rfl ?_
  refine j_iloadn (k := 0) (D_Integer_bitCount 33 rfl) rfl rfl ?_
  refine j_bipush (v := 16) (D_Integer_bitCount 34 rfl) rfl ?_
  refine j_iushr (D_Integer_bitCount 35 rfl) ?_
  refine j_iadd (D_Integer_bitCount 36 rfl) ?_
  refine j_istoren (L' := [(0, vi (wr ((wr ((bAnd ((wr ((bAnd (wr (a0 - (bAnd (bUshr a0 1) 1431655765))) 858993459) + (bAnd (bUshr (wr (a0 - (bAnd (bUshr a0 1) 1431655765))) 2) 858993459))) + (bUshr (wr ((bAnd (wr (a0 - (bAnd (bUshr a0 1) 1431655765))) 858993459) + (bAnd (bUshr (wr (a0 - (bAnd (bUshr a0 1) 1431655765))) 2) 858993459))) 4)) 252645135) + (bUshr (bAnd ((wr ((bAnd (wr (a0 - (bAnd (bUshr a0 1) 1431655765))) 858993459) + (bAnd (bUshr (wr (a0 - (bAnd (bUshr a0 1) 1431655765))) 2) 858993459))) + (bUshr (wr ((bAnd (wr (a0 - (bAnd (bUshr a0 1) 1431655765))) 858993459) + (bAnd (bUshr (wr (a0 - (bAnd (bUshr a0 1) 1431655765))) 2) 858993459))) 4)) 252645135) 8))) + (bUshr (wr ((bAnd ((wr ((bAnd (wr (a0 - (bAnd (bUshr a0 1) 1431655765))) 858993459) + (bAnd (bUshr (wr (a0 - (bAnd (bUshr a0 1) 1431655765))) 2) 858993459))) + (bUshr (wr ((bAnd (wr (a0 - (bAnd (bUshr a0 1) 1431655765))) 858993459) + (bAnd (bUshr (wr (a0 - (bAnd (bUshr a0 1) 1431655765))) 2) 858993459))) 4)) 252645135) + (bUshr (bAnd ((wr ((bAnd (wr (a0 - (bAnd (bUshr a0 1) 1431655765))) 858993459) + (bAnd (bUshr (wr (a0 - (bAnd (bUshr a0 1) 1431655765))) 2) 858993459))) + (bUshr (wr ((bAnd (wr (a0 - (bAnd (bUshr a0 1) 1431655765))) 858993459) + (bAnd (bUshr (wr (a0 - (bAnd (bUshr a0 1) 1431655765))) 2) 858993459))) 4)) 252645135) 8))) 16))))]) (D_Integer_bitCount 37 rfl) rfl (rfl) (by decide) rfl ?_
  refine j_iloadn (k := 0) (D_Integer_bitCount 38 rfl) rfl rfl ?_
  refine j_bipush (v := 63) (D_Integer_bitCount 39 rfl) rfl ?_
  refine j_iand (D_Integer_bitCount 40 rfl) ?_
  exact j_iret (D_Integer_bitCount 41 rfl) rfl (wr_bAnd _ _) rfl rfl (leafIo h (wr_n (wr_bAnd _ _)))
abbrev M_Hall_heirs : MI := (⟨"InquestHall", "heirs", "(II)I"⟩, prog_1_method_17_code, 3, (some .int))
theorem cw_Hall_heirs : Cond.code M_Hall_heirs.1 M_Hall_heirs.2.1 M_Hall_heirs.2.2.1 M_Hall_heirs.2.2.2 ∈ TS := mTS (List.mem_of_getElem? (i := 927) (by decide +kernel)) (by decide +kernel)
theorem lk_Hall_191 : Cond.methodLink "InquestHall" 191 M_Hall_layDescent.1 ∈ TS := mTS (List.mem_of_getElem? (i := 928) (by decide +kernel)) (by decide +kernel)
theorem mok_Hall_layDescent : MOK M_Hall_layDescent 2 := ⟨mTS (List.mem_of_getElem? (i := 930) (by decide +kernel)) (by decide +kernel), mTS (List.mem_of_getElem? (i := 24) (by decide +kernel)) (by decide +kernel), mTS (List.mem_of_getElem? (i := 122) (by decide +kernel)) (by decide +kernel), cw_Hall_layDescent, ⟨by decide, by decide, by decide +kernel⟩, by decide +kernel, by decide⟩
theorem lk_Hall_194 : Cond.methodLink "InquestHall" 194 M_Descent_heirSet.1 ∈ TS := mTS (List.mem_of_getElem? (i := 965) (by decide +kernel)) (by decide +kernel)
theorem mok_Descent_heirSet : MOK M_Descent_heirSet 0 := ⟨mTS (List.mem_of_getElem? (i := 966) (by decide +kernel)) (by decide +kernel), mTS (List.mem_of_getElem? (i := 967) (by decide +kernel)) (by decide +kernel), mTS (List.mem_of_getElem? (i := 134) (by decide +kernel)) (by decide +kernel), cw_Descent_heirSet, ⟨by decide, by decide, by decide +kernel⟩, by decide +kernel, by decide⟩
theorem lk_Hall_198 : Cond.methodLink "InquestHall" 198 M_Integer_bitCount.1 ∈ TS := mTS (List.mem_of_getElem? (i := 969) (by decide +kernel)) (by decide +kernel)
theorem sok_Integer_bitCount : SOK M_Integer_bitCount 1 := ⟨mTS (List.mem_of_getElem? (i := 970) (by decide +kernel)) (by decide +kernel), mTS (List.mem_of_getElem? (i := 141) (by decide +kernel)) (by decide +kernel), cw_Integer_bitCount, ⟨by decide, by decide, by decide +kernel⟩, by decide +kernel, by decide⟩
def tb_Hall_heirs : List (Nat × Instr × Nat) := [(0, .aload_n 0, 1), (1, .iload_n 1, 1), (2, .iload_n 2, 1), (3, .invokevirtual 191, 3), (6, .ifCond .eq 16, 3), (9, .aload_n 0, 1), (10, .getfield 60, 3), (13, .invokevirtual 194, 3), (16, .invokestatic 198, 3), (19, .goto 4, 3), (22, .iconst (-1), 1), (23, .ireturn, 1)]
theorem D_Hall_heirs (i : Nat) {pc len : Nat} {ins : Instr} (hi : tb_Hall_heirs[i]? = some (pc, ins, len)) : decode M_Hall_heirs.2.1 pc = .ok (ins, len) := dec_of (by decide +kernel) i hi
def f_Hall_heirs (G : GS) (a1 : Int) (a2 : Int) : Option (Int × GS) :=
  (f_Hall_layDescent G a1 a2).bind fun q1 =>
  if q1.1 = 0 then
    some ((-1), q1.2)
  else
    (f_Descent_heirSet q1.2).bind fun q2 =>
    (f_Integer_bitCount q1.2 q2).bind fun q3 =>
    some (q3, q1.2)
theorem c_Hall_heirs {X : XT} {G : GS} {a1 : Int} {a2 : Int} {r : Int × GS} (ha1 : wr a1 = a1) (ha2 : wr a2 = a2) (h : f_Hall_heirs G a1 a2 = some r) : Call X true 13 0 0 M_Hall_heirs [rf X 0, vi a1, vi a2] NC G (Ri r.1 r.2) := by
  refine Call_of_J cw_Hall_heirs (by decide +kernel) (Nat.le_of_ble_eq_true rfl) ?_
  unfold f_Hall_heirs at h
  show J X true 13 0 0 M_Hall_heirs (Ri r.1 r.2) NC 0 0 0 [(0, rf X 0), (1, vi a1), (2, vi a2)] [] G
  refine j_aloadn (k := 0) (D_Hall_heirs 0 rfl) rfl rfl ?_
  refine j_iloadn (k := 1) (D_Hall_heirs 1 rfl) rfl rfl ?_
  refine j_iloadn (k := 2) (D_Hall_heirs 2 rfl) rfl rfl ?_
  obtain ⟨q1, e1, h⟩ := Option.bind_eq_some_iff.mp h
  refine j_cVz (c_Hall_layDescent (ha1) (ha2) e1) rfl lk_Hall_191 mok_Hall_layDescent kd_0 lc_0 rfl (by decide) rfl rfl (Nat.le_of_ble_eq_true rfl) (D_Hall_heirs 3 rfl) (fun w1 bw1 => ?_)
  refine j_if_eq (tgt := 22) (D_Hall_heirs 4 rfl) rfl (w1) (fun c1 => ?_) (fun c1 => ?_)
  · replace h := ite_t h c1
    refine j_iconst (v := (-1)) (D_Hall_heirs 10 rfl) rfl ?_
    exact j_iret (D_Hall_heirs 11 rfl) rfl (wr_lit rfl) rfl rfl (leafI h (wr_n (wr_lit rfl)))
  · replace h := ite_f h c1
    refine j_aloadn (k := 0) (D_Hall_heirs 5 rfl) rfl rfl ?_
    refine j_getR rfl fa_Hall_60 kd_0 lc_0 (by decide) rfl fx_0_6 (by decide) (D_Hall_heirs 6 rfl) ?_
    obtain ⟨q2, e2, h⟩ := Option.bind_eq_some_iff.mp h
    refine j_cVi (c_Descent_heirSet e2) rfl lk_Hall_194 mok_Descent_heirSet kd_30 lc_30 rfl (by decide) rfl rfl (Nat.le_of_ble_eq_true rfl) (D_Hall_heirs 7 rfl) (fun w2 => ?_)
    obtain ⟨q3, e3, h⟩ := Option.bind_eq_some_iff.mp h
    refine j_cSi (c_Integer_bitCount (w2) e3) rfl lk_Hall_198 sok_Integer_bitCount (by decide) rfl rfl (Nat.le_of_ble_eq_true rfl) (D_Hall_heirs 8 rfl) (fun w3 => ?_)
    refine j_goto (tgt := 23) (D_Hall_heirs 9 rfl) rfl ?_
    exact j_iret (D_Hall_heirs 11 rfl) rfl (w3) rfl rfl (leafI h (wr_n (w3)))
abbrev M_Model_canAsk : MI := (⟨"InquestHallModel", "canAsk", "(II)Z"⟩, prog_14_method_63_code, 3, (some .boolean))
theorem cw_Model_canAsk : Cond.code M_Model_canAsk.1 M_Model_canAsk.2.1 M_Model_canAsk.2.2.1 M_Model_canAsk.2.2.2 ∈ TS := mTS (List.mem_of_getElem? (i := 1798) (by decide +kernel)) (by decide +kernel)
def tb_Model_canAsk : List (Nat × Instr × Nat) := [(0, .aload_n 0, 1), (1, .iload_n 1, 1), (2, .invokevirtual 198, 3), (5, .ifCond .eq 25, 3), (8, .aload_n 0, 1), (9, .getfield 25, 3), (12, .iload_n 1, 1), (13, .iaload, 1), (14, .iconst (-1), 1), (15, .if_icmp .eq 15, 3), (18, .aload_n 0, 1), (19, .iload_n 2, 1), (20, .invokevirtual 219, 3), (23, .ifCond .eq 7, 3), (26, .iconst 1, 1), (27, .goto 4, 3), (30, .iconst 0, 1), (31, .ireturn, 1)]
theorem D_Model_canAsk (i : Nat) {pc len : Nat} {ins : Instr} (hi : tb_Model_canAsk[i]? = some (pc, ins, len)) : decode M_Model_canAsk.2.1 pc = .ok (ins, len) := dec_of (by decide +kernel) i hi
def f_Model_canAsk (G : GS) (a1 : Int) (a2 : Int) : Option (Int) :=
  (f_Model_isPerson G a1).bind fun q1 =>
  if q1 = 0 then
    some 0
  else
    gd (0 ≤ a1 ∧ a1 < 32) <|
    if gi G 87 a1.toNat = (-1) then
      some 0
    else
      (f_Model_isLand G a2).bind fun q2 =>
      if q2 = 0 then
        some 0
      else
        some 1
theorem c_Model_canAsk {X : XT} {G : GS} {a1 : Int} {a2 : Int} {r : Int} (ha1 : wr a1 = a1) (ha2 : wr a2 = a2) (h : f_Model_canAsk G a1 a2 = some r) : Call X true 8 0 0 M_Model_canAsk [rf X 81, vi a1, vi a2] NC G (Rz r G) := by
  refine Call_of_J cw_Model_canAsk (by decide +kernel) (Nat.le_of_ble_eq_true rfl) ?_
  unfold f_Model_canAsk at h
  show J X true 8 0 0 M_Model_canAsk (Rz r G) NC 0 0 0 [(0, rf X 81), (1, vi a1), (2, vi a2)] [] G
  refine j_aloadn (k := 0) (D_Model_canAsk 0 rfl) rfl rfl ?_
  refine j_iloadn (k := 1) (D_Model_canAsk 1 rfl) rfl rfl ?_
  obtain ⟨q1, e1, h⟩ := Option.bind_eq_some_iff.mp h
  refine j_cVz (c_Model_isPerson (ha1) e1) rfl lk_Model_198 mok_Model_isPerson kd_81 lc_81 rfl (by decide) rfl rfl (Nat.le_of_ble_eq_true rfl) (D_Model_canAsk 2 rfl) (fun w1 bw1 => ?_)
  refine j_if_eq (tgt := 30) (D_Model_canAsk 3 rfl) rfl (w1) (fun c1 => ?_) (fun c1 => ?_)
  · replace h := ite_t h c1
    refine j_iconst (v := 0) (D_Model_canAsk 16 rfl) rfl ?_
    exact j_zret (D_Model_canAsk 17 rfl) rfl (wr_lit rfl) (nz_01 (by decide)) rfl rfl (leafZo h (wr_n (wr_lit rfl)) (by decide))
  · replace h := ite_f h c1
    refine j_aloadn (k := 0) (D_Model_canAsk 4 rfl) rfl rfl ?_
    refine j_getR rfl fa_Model_25 kd_81 lc_81 (by decide) rfl fx_81_7 (by decide) (D_Model_canAsk 5 rfl) ?_
    refine j_iloadn (k := 1) (D_Model_canAsk 6 rfl) rfl rfl ?_
    have g1 := gd_c h
    replace h := gd_s h
    refine j_iald (NI := 32) (D_Model_canAsk 7 rfl) kd_87 lc_87 (ha1) rfl g1.1 g1.2 ?_
    refine j_iconst (v := (-1)) (D_Model_canAsk 8 rfl) rfl ?_
    refine j_ic_eq (tgt := 30) (D_Model_canAsk 9 rfl) rfl (wr_gi _ _ _) (wr_lit rfl) (fun c2 => ?_) (fun c2 => ?_)
    · replace h := ite_t h c2
      refine j_iconst (v := 0) (D_Model_canAsk 16 rfl) rfl ?_
      exact j_zret (D_Model_canAsk 17 rfl) rfl (wr_lit rfl) (nz_01 (by decide)) rfl rfl (leafZo h (wr_n (wr_lit rfl)) (by decide))
    · replace h := ite_f h c2
      refine j_aloadn (k := 0) (D_Model_canAsk 10 rfl) rfl rfl ?_
      refine j_iloadn (k := 2) (D_Model_canAsk 11 rfl) rfl rfl ?_
      obtain ⟨q2, e2, h⟩ := Option.bind_eq_some_iff.mp h
      refine j_cVz (c_Model_isLand (ha2) e2) rfl lk_Model_219 mok_Model_isLand kd_81 lc_81 rfl (by decide) rfl rfl (Nat.le_of_ble_eq_true rfl) (D_Model_canAsk 12 rfl) (fun w2 bw2 => ?_)
      refine j_if_eq (tgt := 30) (D_Model_canAsk 13 rfl) rfl (w2) (fun c3 => ?_) (fun c3 => ?_)
      · replace h := ite_t h c3
        refine j_iconst (v := 0) (D_Model_canAsk 16 rfl) rfl ?_
        exact j_zret (D_Model_canAsk 17 rfl) rfl (wr_lit rfl) (nz_01 (by decide)) rfl rfl (leafZo h (wr_n (wr_lit rfl)) (by decide))
      · replace h := ite_f h c3
        refine j_iconst (v := 1) (D_Model_canAsk 14 rfl) rfl ?_
        refine j_goto (tgt := 31) (D_Model_canAsk 15 rfl) rfl ?_
        exact j_zret (D_Model_canAsk 17 rfl) rfl (wr_lit rfl) (nz_01 (by decide)) rfl rfl (leafZo h (wr_n (wr_lit rfl)) (by decide))
abbrev M_Model_isAlive : MI := (⟨"InquestHallModel", "isAlive", "(II)Z"⟩, prog_14_method_13_code, 3, (some .boolean))
theorem cw_Model_isAlive : Cond.code M_Model_isAlive.1 M_Model_isAlive.2.1 M_Model_isAlive.2.2.1 M_Model_isAlive.2.2.2 ∈ TS := mTS (List.mem_of_getElem? (i := 1814) (by decide +kernel)) (by decide +kernel)
def tb_Model_isAlive : List (Nat × Instr × Nat) := [(0, .aload_n 0, 1), (1, .getfield 25, 3), (4, .iload_n 1, 1), (5, .iaload, 1), (6, .iconst (-1), 1), (7, .if_icmp .eq 13, 3), (10, .aload_n 0, 1), (11, .getfield 25, 3), (14, .iload_n 1, 1), (15, .iaload, 1), (16, .iload_n 2, 1), (17, .if_icmp .le 17, 3), (20, .aload_n 0, 1), (21, .getfield 19, 3), (24, .iload_n 1, 1), (25, .iaload, 1), (26, .iload_n 2, 1), (27, .if_icmp .gt 7, 3), (30, .iconst 1, 1), (31, .goto 4, 3), (34, .iconst 0, 1), (35, .ireturn, 1)]
theorem D_Model_isAlive (i : Nat) {pc len : Nat} {ins : Instr} (hi : tb_Model_isAlive[i]? = some (pc, ins, len)) : decode M_Model_isAlive.2.1 pc = .ok (ins, len) := dec_of (by decide +kernel) i hi
def f_Model_isAlive_L20 (G : GS) (x1 : Int) (x2 : Int) : Option (Int) :=
  gd (0 ≤ x1 ∧ x1 < 32) <|
  if x2 < gi G 85 x1.toNat then
    some 0
  else
    some 1
theorem s_Model_isAlive_L20 {X : XT} {G : GS} {r : Int} : ∀ {x1 : Int} {x2 : Int}, wr x1 = x1 → wr x2 = x2 → f_Model_isAlive_L20 G x1 x2 = some r → J X true 6 0 0 M_Model_isAlive (Rz r G) NC 0 0 20 [(0, rf X 81), (1, vi x1), (2, vi x2)] [] G := by
  intro x1 x2 hx1 hx2 h
  unfold f_Model_isAlive_L20 at h
  refine j_aloadn (k := 0) (D_Model_isAlive 12 rfl) rfl rfl ?_
  refine j_getR rfl fa_Model_19 kd_81 lc_81 (by decide) rfl fx_81_5 (by decide) (D_Model_isAlive 13 rfl) ?_
  refine j_iloadn (k := 1) (D_Model_isAlive 14 rfl) rfl rfl ?_
  have g1 := gd_c h
  replace h := gd_s h
  refine j_iald (NI := 32) (D_Model_isAlive 15 rfl) kd_85 lc_85 (hx1) rfl g1.1 g1.2 ?_
  refine j_iloadn (k := 2) (D_Model_isAlive 16 rfl) rfl rfl ?_
  refine j_ic_gt (tgt := 34) (D_Model_isAlive 17 rfl) rfl (wr_gi _ _ _) (hx2) (fun c1 => ?_) (fun c1 => ?_)
  · replace h := ite_t h c1
    refine j_iconst (v := 0) (D_Model_isAlive 20 rfl) rfl ?_
    exact j_zret (D_Model_isAlive 21 rfl) rfl (wr_lit rfl) (nz_01 (by decide)) rfl rfl (leafZo h (wr_n (wr_lit rfl)) (by decide))
  · replace h := ite_f h c1
    refine j_iconst (v := 1) (D_Model_isAlive 18 rfl) rfl ?_
    refine j_goto (tgt := 35) (D_Model_isAlive 19 rfl) rfl ?_
    exact j_zret (D_Model_isAlive 21 rfl) rfl (wr_lit rfl) (nz_01 (by decide)) rfl rfl (leafZo h (wr_n (wr_lit rfl)) (by decide))
def f_Model_isAlive (G : GS) (a1 : Int) (a2 : Int) : Option (Int) :=
  gd (0 ≤ a1 ∧ a1 < 32) <|
  if gi G 87 a1.toNat = (-1) then
    f_Model_isAlive_L20 G a1 a2
  else
    gd (0 ≤ a1 ∧ a1 < 32) <|
    if gi G 87 a1.toNat ≤ a2 then
      some 0
    else
      f_Model_isAlive_L20 G a1 a2
theorem c_Model_isAlive {X : XT} {G : GS} {a1 : Int} {a2 : Int} {r : Int} (ha1 : wr a1 = a1) (ha2 : wr a2 = a2) (h : f_Model_isAlive G a1 a2 = some r) : Call X true 6 0 0 M_Model_isAlive [rf X 81, vi a1, vi a2] NC G (Rz r G) := by
  refine Call_of_J cw_Model_isAlive (by decide +kernel) (Nat.le_of_ble_eq_true rfl) ?_
  unfold f_Model_isAlive at h
  show J X true 6 0 0 M_Model_isAlive (Rz r G) NC 0 0 0 [(0, rf X 81), (1, vi a1), (2, vi a2)] [] G
  refine j_aloadn (k := 0) (D_Model_isAlive 0 rfl) rfl rfl ?_
  refine j_getR rfl fa_Model_25 kd_81 lc_81 (by decide) rfl fx_81_7 (by decide) (D_Model_isAlive 1 rfl) ?_
  refine j_iloadn (k := 1) (D_Model_isAlive 2 rfl) rfl rfl ?_
  have g1 := gd_c h
  replace h := gd_s h
  refine j_iald (NI := 32) (D_Model_isAlive 3 rfl) kd_87 lc_87 (ha1) rfl g1.1 g1.2 ?_
  refine j_iconst (v := (-1)) (D_Model_isAlive 4 rfl) rfl ?_
  refine j_ic_eq (tgt := 20) (D_Model_isAlive 5 rfl) rfl (wr_gi _ _ _) (wr_lit rfl) (fun c1 => ?_) (fun c1 => ?_)
  · replace h := ite_t h c1
    refine j_loc [0, 1, 2] rfl ?_
    exact s_Model_isAlive_L20 (ha1) (ha2) h
  · replace h := ite_f h c1
    refine j_aloadn (k := 0) (D_Model_isAlive 6 rfl) rfl rfl ?_
    refine j_getR rfl fa_Model_25 kd_81 lc_81 (by decide) rfl fx_81_7 (by decide) (D_Model_isAlive 7 rfl) ?_
    refine j_iloadn (k := 1) (D_Model_isAlive 8 rfl) rfl rfl ?_
    have g2 := gd_c h
    replace h := gd_s h
    refine j_iald (NI := 32) (D_Model_isAlive 9 rfl) kd_87 lc_87 (ha1) rfl g2.1 g2.2 ?_
    refine j_iloadn (k := 2) (D_Model_isAlive 10 rfl) rfl rfl ?_
    refine j_ic_le (tgt := 34) (D_Model_isAlive 11 rfl) rfl (wr_gi _ _ _) (ha2) (fun c2 => ?_) (fun c2 => ?_)
    · replace h := ite_t h c2
      refine j_iconst (v := 0) (D_Model_isAlive 20 rfl) rfl ?_
      exact j_zret (D_Model_isAlive 21 rfl) rfl (wr_lit rfl) (nz_01 (by decide)) rfl rfl (leafZo h (wr_n (wr_lit rfl)) (by decide))
    · replace h := ite_f h c2
      refine j_loc [0, 1, 2] rfl ?_
      exact s_Model_isAlive_L20 (ha1) (ha2) h
abbrev M_Model_isChild : MI := (⟨"InquestHallModel", "isChild", "(II)Z"⟩, prog_14_method_54_code, 3, (some .boolean))
theorem cw_Model_isChild : Cond.code M_Model_isChild.1 M_Model_isChild.2.1 M_Model_isChild.2.2.1 M_Model_isChild.2.2.2 ∈ TS := mTS (List.mem_of_getElem? (i := 1826) (by decide +kernel)) (by decide +kernel)
theorem fa_Model_420 : FA "InquestHallModel" 420 12 55 false .int := ⟨_, _, _, _, ok_Model, by decide, mTS (List.mem_of_getElem? (i := 1356) (by decide +kernel)) (by decide +kernel), rfl, rfl⟩
def tb_Model_isChild : List (Nat × Instr × Nat) := [(0, .aload_n 0, 1), (1, .getfield 13, 3), (4, .iload_n 1, 1), (5, .iaload, 1), (6, .iload_n 2, 1), (7, .if_icmp .eq 13, 3), (10, .aload_n 0, 1), (11, .getfield 16, 3), (14, .iload_n 1, 1), (15, .iaload, 1), (16, .iload_n 2, 1), (17, .if_icmp .ne 20, 3), (20, .aload_n 0, 1), (21, .getfield 19, 3), (24, .iload_n 1, 1), (25, .iaload, 1), (26, .aload_n 0, 1), (27, .getfield 420, 3), (30, .if_icmp .gt 7, 3), (33, .iconst 1, 1), (34, .goto 4, 3), (37, .iconst 0, 1), (38, .ireturn, 1)]
theorem D_Model_isChild (i : Nat) {pc len : Nat} {ins : Instr} (hi : tb_Model_isChild[i]? = some (pc, ins, len)) : decode M_Model_isChild.2.1 pc = .ok (ins, len) := dec_of (by decide +kernel) i hi
def f_Model_isChild_L20 (G : GS) (x1 : Int) : Option (Int) :=
  gd (0 ≤ x1 ∧ x1 < 32) <|
  if gi G 81 55 < gi G 85 x1.toNat then
    some 0
  else
    some 1
theorem s_Model_isChild_L20 {X : XT} {G : GS} {r : Int} : ∀ {x1 : Int}, wr x1 = x1 → f_Model_isChild_L20 G x1 = some r → J X true 6 0 0 M_Model_isChild (Rz r G) NC 0 0 20 [(0, rf X 81), (1, vi x1)] [] G := by
  intro x1 hx1 h
  unfold f_Model_isChild_L20 at h
  refine j_aloadn (k := 0) (D_Model_isChild 12 rfl) rfl rfl ?_
  refine j_getR rfl fa_Model_19 kd_81 lc_81 (by decide) rfl fx_81_5 (by decide) (D_Model_isChild 13 rfl) ?_
  refine j_iloadn (k := 1) (D_Model_isChild 14 rfl) rfl rfl ?_
  have g1 := gd_c h
  replace h := gd_s h
  refine j_iald (NI := 32) (D_Model_isChild 15 rfl) kd_85 lc_85 (hx1) rfl g1.1 g1.2 ?_
  refine j_aloadn (k := 0) (D_Model_isChild 16 rfl) rfl rfl ?_
  refine j_getI rfl fa_Model_420 kd_81 lc_81 (by decide) rfl (D_Model_isChild 17 rfl) ?_
  refine j_ic_gt (tgt := 37) (D_Model_isChild 18 rfl) rfl (wr_gi _ _ _) (wr_gi _ _ _) (fun c1 => ?_) (fun c1 => ?_)
  · replace h := ite_t h c1
    refine j_iconst (v := 0) (D_Model_isChild 21 rfl) rfl ?_
    exact j_zret (D_Model_isChild 22 rfl) rfl (wr_lit rfl) (nz_01 (by decide)) rfl rfl (leafZo h (wr_n (wr_lit rfl)) (by decide))
  · replace h := ite_f h c1
    refine j_iconst (v := 1) (D_Model_isChild 19 rfl) rfl ?_
    refine j_goto (tgt := 38) (D_Model_isChild 20 rfl) rfl ?_
    exact j_zret (D_Model_isChild 22 rfl) rfl (wr_lit rfl) (nz_01 (by decide)) rfl rfl (leafZo h (wr_n (wr_lit rfl)) (by decide))
def f_Model_isChild (G : GS) (a1 : Int) (a2 : Int) : Option (Int) :=
  gd (0 ≤ a1 ∧ a1 < 32) <|
  if gi G 83 a1.toNat = a2 then
    f_Model_isChild_L20 G a1
  else
    gd (0 ≤ a1 ∧ a1 < 32) <|
    if gi G 84 a1.toNat = a2 then
      f_Model_isChild_L20 G a1
    else
      some 0
theorem c_Model_isChild {X : XT} {G : GS} {a1 : Int} {a2 : Int} {r : Int} (ha1 : wr a1 = a1) (ha2 : wr a2 = a2) (h : f_Model_isChild G a1 a2 = some r) : Call X true 6 0 0 M_Model_isChild [rf X 81, vi a1, vi a2] NC G (Rz r G) := by
  refine Call_of_J cw_Model_isChild (by decide +kernel) (Nat.le_of_ble_eq_true rfl) ?_
  unfold f_Model_isChild at h
  show J X true 6 0 0 M_Model_isChild (Rz r G) NC 0 0 0 [(0, rf X 81), (1, vi a1), (2, vi a2)] [] G
  refine j_aloadn (k := 0) (D_Model_isChild 0 rfl) rfl rfl ?_
  refine j_getR rfl fa_Model_13 kd_81 lc_81 (by decide) rfl fx_81_3 (by decide) (D_Model_isChild 1 rfl) ?_
  refine j_iloadn (k := 1) (D_Model_isChild 2 rfl) rfl rfl ?_
  have g1 := gd_c h
  replace h := gd_s h
  refine j_iald (NI := 32) (D_Model_isChild 3 rfl) kd_83 lc_83 (ha1) rfl g1.1 g1.2 ?_
  refine j_iloadn (k := 2) (D_Model_isChild 4 rfl) rfl rfl ?_
  refine j_ic_eq (tgt := 20) (D_Model_isChild 5 rfl) rfl (wr_gi _ _ _) (ha2) (fun c1 => ?_) (fun c1 => ?_)
  · replace h := ite_t h c1
    refine j_loc [0, 1] rfl ?_
    exact s_Model_isChild_L20 (ha1) h
  · replace h := ite_f h c1
    refine j_aloadn (k := 0) (D_Model_isChild 6 rfl) rfl rfl ?_
    refine j_getR rfl fa_Model_16 kd_81 lc_81 (by decide) rfl fx_81_4 (by decide) (D_Model_isChild 7 rfl) ?_
    refine j_iloadn (k := 1) (D_Model_isChild 8 rfl) rfl rfl ?_
    have g2 := gd_c h
    replace h := gd_s h
    refine j_iald (NI := 32) (D_Model_isChild 9 rfl) kd_84 lc_84 (ha1) rfl g2.1 g2.2 ?_
    refine j_iloadn (k := 2) (D_Model_isChild 10 rfl) rfl rfl ?_
    refine j_ic_ne (tgt := 37) (D_Model_isChild 11 rfl) rfl (wr_gi _ _ _) (ha2) (fun c2 => ?_) (fun c2 => ?_)
    · replace h := ite_f h c2
      refine j_iconst (v := 0) (D_Model_isChild 21 rfl) rfl ?_
      exact j_zret (D_Model_isChild 22 rfl) rfl (wr_lit rfl) (nz_01 (by decide)) rfl rfl (leafZo h (wr_n (wr_lit rfl)) (by decide))
    · replace h := ite_t h c2
      refine j_loc [0, 1] rfl ?_
      exact s_Model_isChild_L20 (ha1) h
abbrev M_Model_isOne : MI := (⟨"InquestHallModel", "isOne", "(IIII)Z"⟩, prog_14_method_56_code, 5, (some .boolean))
theorem cw_Model_isOne : Cond.code M_Model_isOne.1 M_Model_isOne.2.1 M_Model_isOne.2.2.1 M_Model_isOne.2.2.2 ∈ TS := mTS (List.mem_of_getElem? (i := 1822) (by decide +kernel)) (by decide +kernel)
theorem lk_Model_439 : Cond.methodLink "InquestHallModel" 439 M_Model_isChild.1 ∈ TS := mTS (List.mem_of_getElem? (i := 1823) (by decide +kernel)) (by decide +kernel)
theorem mok_Model_isChild : MOK M_Model_isChild 2 := ⟨mTS (List.mem_of_getElem? (i := 1825) (by decide +kernel)) (by decide +kernel), mTS (List.mem_of_getElem? (i := 96) (by decide +kernel)) (by decide +kernel), mTS (List.mem_of_getElem? (i := 139) (by decide +kernel)) (by decide +kernel), cw_Model_isChild, ⟨by decide, by decide, by decide +kernel⟩, by decide +kernel, by decide⟩
theorem fa_Model_125 : FA "InquestHallModel" 125 12 58 true (.array .boolean) := ⟨_, _, _, _, ok_Model, by decide, mTS (List.mem_of_getElem? (i := 1359) (by decide +kernel)) (by decide +kernel), rfl, rfl⟩
theorem fx_81_58 {G : GS} (w : WF true NC G) : G.2.2 81 58 = 119 := w.2 rfl (81, 58, 119) (by decide)
theorem kd_119 : kd 119 = (3, 32) := rfl
theorem lc_119 : 119 < NC := by decide
def tb_Model_isOne : List (Nat × Instr × Nat) := [(0, .iload_n 1, 1), (1, .iload_n 3, 1), (2, .if_icmp .eq 36, 3), (5, .aload_n 0, 1), (6, .getfield 7, 3), (9, .iload_n 1, 1), (10, .iaload, 1), (11, .iload 4, 2), (13, .if_icmp .ne 25, 3), (16, .aload_n 0, 1), (17, .iload_n 1, 1), (18, .iload_n 2, 1), (19, .invokevirtual 439, 3), (22, .ifCond .eq 16, 3), (25, .aload_n 0, 1), (26, .getfield 125, 3), (29, .iload_n 1, 1), (30, .baload, 1), (31, .ifCond .eq 7, 3), (34, .iconst 1, 1), (35, .goto 4, 3), (38, .iconst 0, 1), (39, .ireturn, 1)]
theorem D_Model_isOne (i : Nat) {pc len : Nat} {ins : Instr} (hi : tb_Model_isOne[i]? = some (pc, ins, len)) : decode M_Model_isOne.2.1 pc = .ok (ins, len) := dec_of (by decide +kernel) i hi
def f_Model_isOne (G : GS) (a1 : Int) (a2 : Int) (a3 : Int) (a4 : Int) : Option (Int) :=
  if a1 = a3 then
    some 0
  else
    gd (0 ≤ a1 ∧ a1 < 32) <|
    if gi G 82 a1.toNat = a4 then
      (f_Model_isChild G a1 a2).bind fun q1 =>
      if q1 = 0 then
        some 0
      else
        gd (0 ≤ a1 ∧ a1 < 32) <|
        if gi G 119 a1.toNat = 0 then
          some 0
        else
          some 1
    else
      some 0
theorem c_Model_isOne {X : XT} {G : GS} {a1 : Int} {a2 : Int} {a3 : Int} {a4 : Int} {r : Int} (ha1 : wr a1 = a1) (ha2 : wr a2 = a2) (ha3 : wr a3 = a3) (ha4 : wr a4 = a4) (h : f_Model_isOne G a1 a2 a3 a4 = some r) : Call X true 7 0 0 M_Model_isOne [rf X 81, vi a1, vi a2, vi a3, vi a4] NC G (Rz r G) := by
  refine Call_of_J cw_Model_isOne (by decide +kernel) (Nat.le_of_ble_eq_true rfl) ?_
  unfold f_Model_isOne at h
  show J X true 7 0 0 M_Model_isOne (Rz r G) NC 0 0 0 [(0, rf X 81), (1, vi a1), (2, vi a2), (3, vi a3), (4, vi a4)] [] G
  refine j_iloadn (k := 1) (D_Model_isOne 0 rfl) rfl rfl ?_
  refine j_iloadn (k := 3) (D_Model_isOne 1 rfl) rfl rfl ?_
  refine j_ic_eq (tgt := 38) (D_Model_isOne 2 rfl) rfl (ha1) (ha3) (fun c1 => ?_) (fun c1 => ?_)
  · replace h := ite_t h c1
    refine j_iconst (v := 0) (D_Model_isOne 21 rfl) rfl ?_
    exact j_zret (D_Model_isOne 22 rfl) rfl (wr_lit rfl) (nz_01 (by decide)) rfl rfl (leafZo h (wr_n (wr_lit rfl)) (by decide))
  · replace h := ite_f h c1
    refine j_aloadn (k := 0) (D_Model_isOne 3 rfl) rfl rfl ?_
    refine j_getR rfl fa_Model_7 kd_81 lc_81 (by decide) rfl fx_81_2 (by decide) (D_Model_isOne 4 rfl) ?_
    refine j_iloadn (k := 1) (D_Model_isOne 5 rfl) rfl rfl ?_
    have g1 := gd_c h
    replace h := gd_s h
    refine j_iald (NI := 32) (D_Model_isOne 6 rfl) kd_82 lc_82 (ha1) rfl g1.1 g1.2 ?_
    refine j_iload (k := 4) (D_Model_isOne 7 rfl) rfl ?_
    refine j_ic_ne (tgt := 38) (D_Model_isOne 8 rfl) rfl (wr_gi _ _ _) (ha4) (fun c2 => ?_) (fun c2 => ?_)
    · replace h := ite_f h c2
      refine j_iconst (v := 0) (D_Model_isOne 21 rfl) rfl ?_
      exact j_zret (D_Model_isOne 22 rfl) rfl (wr_lit rfl) (nz_01 (by decide)) rfl rfl (leafZo h (wr_n (wr_lit rfl)) (by decide))
    · replace h := ite_t h c2
      refine j_aloadn (k := 0) (D_Model_isOne 9 rfl) rfl rfl ?_
      refine j_iloadn (k := 1) (D_Model_isOne 10 rfl) rfl rfl ?_
      refine j_iloadn (k := 2) (D_Model_isOne 11 rfl) rfl rfl ?_
      obtain ⟨q1, e1, h⟩ := Option.bind_eq_some_iff.mp h
      refine j_cVz (c_Model_isChild (ha1) (ha2) e1) rfl lk_Model_439 mok_Model_isChild kd_81 lc_81 rfl (by decide) rfl rfl (Nat.le_of_ble_eq_true rfl) (D_Model_isOne 12 rfl) (fun w1 bw1 => ?_)
      refine j_if_eq (tgt := 38) (D_Model_isOne 13 rfl) rfl (w1) (fun c3 => ?_) (fun c3 => ?_)
      · replace h := ite_t h c3
        refine j_iconst (v := 0) (D_Model_isOne 21 rfl) rfl ?_
        exact j_zret (D_Model_isOne 22 rfl) rfl (wr_lit rfl) (nz_01 (by decide)) rfl rfl (leafZo h (wr_n (wr_lit rfl)) (by decide))
      · replace h := ite_f h c3
        refine j_aloadn (k := 0) (D_Model_isOne 14 rfl) rfl rfl ?_
        refine j_getR rfl fa_Model_125 kd_81 lc_81 (by decide) rfl fx_81_58 (by decide) (D_Model_isOne 15 rfl) ?_
        refine j_iloadn (k := 1) (D_Model_isOne 16 rfl) rfl rfl ?_
        have g2 := gd_c h
        replace h := gd_s h
        refine j_zald (NI := 32) (D_Model_isOne 17 rfl) kd_119 lc_119 (ha1) rfl g2.1 g2.2 ?_
        refine j_if_eq (tgt := 38) (D_Model_isOne 18 rfl) rfl (wr_gi _ _ _) (fun c4 => ?_) (fun c4 => ?_)
        · replace h := ite_t h c4
          refine j_iconst (v := 0) (D_Model_isOne 21 rfl) rfl ?_
          exact j_zret (D_Model_isOne 22 rfl) rfl (wr_lit rfl) (nz_01 (by decide)) rfl rfl (leafZo h (wr_n (wr_lit rfl)) (by decide))
        · replace h := ite_f h c4
          refine j_iconst (v := 1) (D_Model_isOne 19 rfl) rfl ?_
          refine j_goto (tgt := 39) (D_Model_isOne 20 rfl) rfl ?_
          exact j_zret (D_Model_isOne 22 rfl) rfl (wr_lit rfl) (nz_01 (by decide)) rfl rfl (leafZo h (wr_n (wr_lit rfl)) (by decide))
abbrev M_Model_hasChildren : MI := (⟨"InquestHallModel", "hasChildren", "(II)Z"⟩, prog_14_method_57_code, 5, (some .boolean))
theorem cw_Model_hasChildren : Cond.code M_Model_hasChildren.1 M_Model_hasChildren.2.1 M_Model_hasChildren.2.2.1 M_Model_hasChildren.2.2.2 ∈ TS := mTS (List.mem_of_getElem? (i := 1818) (by decide +kernel)) (by decide +kernel)
theorem lk_Model_442 : Cond.methodLink "InquestHallModel" 442 M_Model_isOne.1 ∈ TS := mTS (List.mem_of_getElem? (i := 1819) (by decide +kernel)) (by decide +kernel)
theorem mok_Model_isOne : MOK M_Model_isOne 4 := ⟨mTS (List.mem_of_getElem? (i := 1821) (by decide +kernel)) (by decide +kernel), mTS (List.mem_of_getElem? (i := 95) (by decide +kernel)) (by decide +kernel), mTS (List.mem_of_getElem? (i := 139) (by decide +kernel)) (by decide +kernel), cw_Model_isOne, ⟨by decide, by decide, by decide +kernel⟩, by decide +kernel, by decide⟩
def tb_Model_hasChildren : List (Nat × Instr × Nat) := [(0, .iconst 0, 1), (1, .istore_n 3, 1), (2, .iload_n 1, 1), (3, .iconst 1, 1), (4, .iadd, 1), (5, .istore 4, 2), (7, .iload 4, 2), (9, .aload_n 0, 1), (10, .getfield 195, 3), (13, .if_icmp .ge 37, 3), (16, .iload_n 3, 1), (17, .ifCond .ne 21, 3), (20, .aload_n 0, 1), (21, .iload 4, 2), (23, .iload_n 1, 1), (24, .iload_n 2, 1), (25, .aload_n 0, 1), (26, .getfield 7, 3), (29, .iload 4, 2), (31, .iaload, 1), (32, .invokevirtual 442, 3), (35, .ifCond .eq 7, 3), (38, .iconst 1, 1), (39, .goto 4, 3), (42, .iconst 0, 1), (43, .istore_n 3, 1), (44, .iinc 4 1, 3), (47, .goto (-40), 3), (50, .iload_n 3, 1), (51, .ireturn, 1)]
theorem D_Model_hasChildren (i : Nat) {pc len : Nat} {ins : Instr} (hi : tb_Model_hasChildren[i]? = some (pc, ins, len)) : decode M_Model_hasChildren.2.1 pc = .ok (ins, len) := dec_of (by decide +kernel) i hi
def f_Model_hasChildren_L43 (G : GS) (k7 : Int → Int → Int → Int → Option (Int)) (x1 : Int) (x2 : Int) (x4 : Int) (s0 : Int) : Option (Int) :=
  k7 x1 x2 s0 (wr (x4 + 1))
theorem s_Model_hasChildren_L43 {X : XT} {G : GS} {r : Int} {k7 : Int → Int → Int → Int → Option (Int)} (hk7 : ∀ {x1 : Int} {x2 : Int} {x3 : Int} {x4 : Int} , wr x1 = x1 → wr x2 = x2 → wr x3 = x3 → wr x4 = x4 → k7 x1 x2 x3 x4 = some r → J X true 8 0 0 M_Model_hasChildren (Rz r G) NC 0 0 7 [(0, rf X 81), (1, vi x1), (2, vi x2), (3, vi x3), (4, vi x4)] [] G) : ∀ {x1 : Int} {x2 : Int} {x4 : Int} {s0 : Int}, wr x1 = x1 → wr x2 = x2 → wr x4 = x4 → wr s0 = s0 → f_Model_hasChildren_L43 G k7 x1 x2 x4 s0 = some r → J X true 8 0 0 M_Model_hasChildren (Rz r G) NC 0 0 43 [(0, rf X 81), (1, vi x1), (2, vi x2), (4, vi x4)] [vi s0] G := by
  intro x1 x2 x4 s0 hx1 hx2 hx4 hs0 h
  unfold f_Model_hasChildren_L43 at h
  refine j_istoren (L' := [(3, vi s0), (0, rf X 81), (1, vi x1), (2, vi x2), (4, vi x4)]) (D_Model_hasChildren 25 rfl) rfl (hs0) (by decide) rfl ?_
  refine j_iinc (k := 4) (L' := [(4, vi (wr (x4 + 1))), (3, vi s0), (0, rf X 81), (1, vi x1), (2, vi x2)]) (D_Model_hasChildren 26 rfl) rfl rfl (by decide) rfl ?_
  refine j_goto (tgt := 7) (D_Model_hasChildren 27 rfl) rfl ?_
  refine j_loc [2, 3, 4, 1, 0] rfl ?_
  exact hk7 (hx1) (hx2) (hs0) (wr_wr _) h
def f_Model_hasChildren_L38 (G : GS) (k7 : Int → Int → Int → Int → Option (Int)) (x1 : Int) (x2 : Int) (x4 : Int) : Option (Int) :=
  f_Model_hasChildren_L43 G k7 x1 x2 x4 1
theorem s_Model_hasChildren_L38 {X : XT} {G : GS} {r : Int} {k7 : Int → Int → Int → Int → Option (Int)} (hk7 : ∀ {x1 : Int} {x2 : Int} {x3 : Int} {x4 : Int} , wr x1 = x1 → wr x2 = x2 → wr x3 = x3 → wr x4 = x4 → k7 x1 x2 x3 x4 = some r → J X true 8 0 0 M_Model_hasChildren (Rz r G) NC 0 0 7 [(0, rf X 81), (1, vi x1), (2, vi x2), (3, vi x3), (4, vi x4)] [] G) : ∀ {x1 : Int} {x2 : Int} {x4 : Int}, wr x1 = x1 → wr x2 = x2 → wr x4 = x4 → f_Model_hasChildren_L38 G k7 x1 x2 x4 = some r → J X true 8 0 0 M_Model_hasChildren (Rz r G) NC 0 0 38 [(0, rf X 81), (1, vi x1), (2, vi x2), (4, vi x4)] [] G := by
  intro x1 x2 x4 hx1 hx2 hx4 h
  unfold f_Model_hasChildren_L38 at h
  refine j_iconst (v := 1) (D_Model_hasChildren 22 rfl) rfl ?_
  refine j_goto (tgt := 43) (D_Model_hasChildren 23 rfl) rfl ?_
  refine j_loc [0, 1, 2, 3] rfl ?_
  exact s_Model_hasChildren_L43 hk7 (hx1) (hx2) (hx4) (wr_lit rfl) h
def f_Model_hasChildren_L7 (G : GS) : Nat → Int → Int → Int → Int → Option (Int)
  | 0, _, _, _, _ => none
  | n + 1, x1, x2, x3, x4 =>
    if gi G 81 1 ≤ x4 then
      gd (x3 = 0 ∨ x3 = 1) <|
      some x3
    else
      if x3 = 0 then
        gd (0 ≤ x4 ∧ x4 < 32) <|
        (f_Model_isOne G x4 x1 x2 (gi G 82 x4.toNat)).bind fun q1 =>
        if q1 = 0 then
          f_Model_hasChildren_L43 G (f_Model_hasChildren_L7 G n) x1 x2 x4 0
        else
          f_Model_hasChildren_L38 G (f_Model_hasChildren_L7 G n) x1 x2 x4
      else
        f_Model_hasChildren_L38 G (f_Model_hasChildren_L7 G n) x1 x2 x4
theorem s_Model_hasChildren_L7 {X : XT} {G : GS} {r : Int} : ∀ (n : Nat) {x1 : Int} {x2 : Int} {x3 : Int} {x4 : Int}, wr x1 = x1 → wr x2 = x2 → wr x3 = x3 → wr x4 = x4 → f_Model_hasChildren_L7 G n x1 x2 x3 x4 = some r → J X true 8 0 0 M_Model_hasChildren (Rz r G) NC 0 0 7 [(0, rf X 81), (1, vi x1), (2, vi x2), (3, vi x3), (4, vi x4)] [] G := by
  intro n
  induction n with
  | zero =>
    intro x1 x2 x3 x4 hx1 hx2 hx3 hx4 h
    exact none_some h
  | succ n ih =>
    intro x1 x2 x3 x4 hx1 hx2 hx3 hx4 h
    rw [f_Model_hasChildren_L7] at h
    refine j_iload (k := 4) (D_Model_hasChildren 6 rfl) rfl ?_
    refine j_aloadn (k := 0) (D_Model_hasChildren 7 rfl) rfl rfl ?_
    refine j_getI rfl fa_Model_195 kd_81 lc_81 (by decide) rfl (D_Model_hasChildren 8 rfl) ?_
    refine j_ic_ge (tgt := 50) (D_Model_hasChildren 9 rfl) rfl (hx4) (wr_gi _ _ _) (fun c1 => ?_) (fun c1 => ?_)
    · replace h := ite_t h c1
      refine j_iloadn (k := 3) (D_Model_hasChildren 28 rfl) rfl rfl ?_
      have g1 := gd_c h
      replace h := gd_s h
      exact j_zret (D_Model_hasChildren 29 rfl) rfl (hx3) (nz_01 g1) rfl rfl (leafZo h (wr_n (hx3)) g1)
    · replace h := ite_f h c1
      refine j_iloadn (k := 3) (D_Model_hasChildren 10 rfl) rfl rfl ?_
      refine j_if_ne (tgt := 38) (D_Model_hasChildren 11 rfl) rfl (hx3) (fun c2 => ?_) (fun c2 => ?_)
      · replace h := ite_f h c2
        refine j_loc [0, 1, 2, 4] rfl ?_
        exact s_Model_hasChildren_L38 ih (hx1) (hx2) (hx4) h
      · replace h := ite_t h c2
        refine j_aloadn (k := 0) (D_Model_hasChildren 12 rfl) rfl rfl ?_
        refine j_iload (k := 4) (D_Model_hasChildren 13 rfl) rfl ?_
        refine j_iloadn (k := 1) (D_Model_hasChildren 14 rfl) rfl rfl ?_
        refine j_iloadn (k := 2) (D_Model_hasChildren 15 rfl) rfl rfl ?_
        refine j_aloadn (k := 0) (D_Model_hasChildren 16 rfl) rfl rfl ?_
        refine j_getR rfl fa_Model_7 kd_81 lc_81 (by decide) rfl fx_81_2 (by decide) (D_Model_hasChildren 17 rfl) ?_
        refine j_iload (k := 4) (D_Model_hasChildren 18 rfl) rfl ?_
        have g2 := gd_c h
        replace h := gd_s h
        refine j_iald (NI := 32) (D_Model_hasChildren 19 rfl) kd_82 lc_82 (hx4) rfl g2.1 g2.2 ?_
        obtain ⟨q1, e1, h⟩ := Option.bind_eq_some_iff.mp h
        refine j_cVz (c_Model_isOne (hx4) (hx1) (hx2) (wr_gi _ _ _) e1) rfl lk_Model_442 mok_Model_isOne kd_81 lc_81 rfl (by decide) rfl rfl (Nat.le_of_ble_eq_true rfl) (D_Model_hasChildren 20 rfl) (fun w1 bw1 => ?_)
        refine j_if_eq (tgt := 42) (D_Model_hasChildren 21 rfl) rfl (w1) (fun c3 => ?_) (fun c3 => ?_)
        · replace h := ite_t h c3
          refine j_iconst (v := 0) (D_Model_hasChildren 24 rfl) rfl ?_
          refine j_loc [0, 1, 2, 4] rfl ?_
          exact s_Model_hasChildren_L43 ih (hx1) (hx2) (hx4) (wr_lit rfl) h
        · replace h := ite_f h c3
          refine j_loc [0, 1, 2, 4] rfl ?_
          exact s_Model_hasChildren_L38 ih (hx1) (hx2) (hx4) h
def f_Model_hasChildren (G : GS) (a1 : Int) (a2 : Int) : Option (Int) :=
  f_Model_hasChildren_L7 G FU a1 a2 0 (wr (a1 + 1))
theorem c_Model_hasChildren {X : XT} {G : GS} {a1 : Int} {a2 : Int} {r : Int} (ha1 : wr a1 = a1) (ha2 : wr a2 = a2) (h : f_Model_hasChildren G a1 a2 = some r) : Call X true 8 0 0 M_Model_hasChildren [rf X 81, vi a1, vi a2] NC G (Rz r G) := by
  refine Call_of_J cw_Model_hasChildren (by decide +kernel) (Nat.le_of_ble_eq_true rfl) ?_
  unfold f_Model_hasChildren at h
  show J X true 8 0 0 M_Model_hasChildren (Rz r G) NC 0 0 0 [(0, rf X 81), (1, vi a1), (2, vi a2)] [] G
  refine j_iconst (v := 0) (D_Model_hasChildren 0 rfl) rfl ?_
  refine j_istoren (L' := [(3, vi 0), (0, rf X 81), (1, vi a1), (2, vi a2)]) (D_Model_hasChildren 1 rfl) rfl (wr_lit rfl) (by decide) rfl ?_
  refine j_iloadn (k := 2) (D_Model_hasChildren 2 rfl) rfl rfl ?_
  refine j_iconst (v := 1) (D_Model_hasChildren 3 rfl) rfl ?_
  refine j_iadd (D_Model_hasChildren 4 rfl) ?_
  refine j_istore (L' := [(4, vi (wr (a1 + 1))), (3, vi 0), (0, rf X 81), (1, vi a1), (2, vi a2)]) (D_Model_hasChildren 5 rfl) (rfl) (by decide) rfl ?_
  refine j_loc [2, 3, 4, 1, 0] rfl ?_
  exact s_Model_hasChildren_L7 FU (ha1) (ha2) (wr_lit rfl) (wr_wr _) h
abbrev M_Model_common : MI := (⟨"InquestHallModel", "common", "(JJ)J"⟩, prog_14_method_53_code, 10, (some .long))
theorem cw_Model_common : Cond.code M_Model_common.1 M_Model_common.2.1 M_Model_common.2.2.1 M_Model_common.2.2.2 ∈ TS := mTS (List.mem_of_getElem? (i := 1837) (by decide +kernel)) (by decide +kernel)
def tb_Model_common : List (Nat × Instr × Nat) := [(0, .lload_n 0, 1), (1, .lstore 4, 2), (3, .lload_n 2, 1), (4, .lstore 6, 2), (6, .lload 6, 2), (8, .lconst 0, 1), (9, .lcmp, 1), (10, .ifCond .eq 21, 3), (13, .lload 4, 2), (15, .lload 6, 2), (17, .lrem, 1), (18, .lstore 8, 2), (20, .lload 6, 2), (22, .lstore 4, 2), (24, .lload 8, 2), (26, .lstore 6, 2), (28, .goto (-22), 3), (31, .lload 4, 2), (33, .lreturn, 1)]
theorem D_Model_common (i : Nat) {pc len : Nat} {ins : Instr} (hi : tb_Model_common[i]? = some (pc, ins, len)) : decode M_Model_common.2.1 pc = .ok (ins, len) := dec_of (by decide +kernel) i hi
def f_Model_common_L6 (G : GS) : Nat → Int → Int → Option (Int)
  | 0, _, _ => none
  | n + 1, x4, x6 =>
    if lc x6 0 = 0 then
      some x4
    else
      gd (¬ x6 = 0) <|
      f_Model_common_L6 G n x6 (lmd x4 x6)
theorem s_Model_common_L6 {X : XT} {G : GS} {r : Int} : ∀ (n : Nat) {x4 : Int} {x6 : Int}, wl x4 = x4 → wl x6 = x6 → f_Model_common_L6 G n x4 x6 = some r → J X true 6 0 0 M_Model_common (Rl r G) NC 0 0 6 [(4, vl x4), (6, vl x6)] [] G := by
  intro n
  induction n with
  | zero =>
    intro x4 x6 hx4 hx6 h
    exact none_some h
  | succ n ih =>
    intro x4 x6 hx4 hx6 h
    rw [f_Model_common_L6] at h
    refine j_lload (k := 1) (D_Model_common 4 rfl) rfl ?_
    refine j_lconst (v := 0) (D_Model_common 5 rfl) rfl ?_
    refine j_lcmp (D_Model_common 6 rfl) ?_
    refine j_if_eq (tgt := 31) (D_Model_common 7 rfl) rfl (wr_lc _ _) (fun c1 => ?_) (fun c1 => ?_)
    · replace h := ite_t h c1
      refine j_lload (k := 0) (D_Model_common 17 rfl) rfl ?_
      exact j_lret (D_Model_common 18 rfl) rfl (hx4) rfl rfl (leafLo h (wl_n (hx4)))
    · replace h := ite_f h c1
      refine j_lload (k := 0) (D_Model_common 8 rfl) rfl ?_
      refine j_lload (k := 1) (D_Model_common 9 rfl) rfl ?_
      have g1 := gd_c h
      replace h := gd_s h
      refine j_lrem (D_Model_common 10 rfl) (hx6) g1 ?_
      refine j_lstore (L' := [(8, vl (lmd x4 x6)), (4, vl x4), (6, vl x6)]) (D_Model_common 11 rfl) (wl_lmd _ _) (by decide) rfl ?_
      refine j_lload (k := 2) (D_Model_common 12 rfl) rfl ?_
      refine j_lstore (L' := [(4, vl x6), (8, vl (lmd x4 x6)), (6, vl x6)]) (D_Model_common 13 rfl) (hx6) (by decide) rfl ?_
      refine j_lload (k := 1) (D_Model_common 14 rfl) rfl ?_
      refine j_lstore (L' := [(6, vl (lmd x4 x6)), (4, vl x6), (8, vl (lmd x4 x6))]) (D_Model_common 15 rfl) (wl_lmd _ _) (by decide) rfl ?_
      refine j_goto (tgt := 6) (D_Model_common 16 rfl) rfl ?_
      refine j_loc [1, 0] rfl ?_
      exact ih (hx6) (wl_lmd _ _) h
def f_Model_common (G : GS) (a0 : Int) (a2 : Int) : Option (Int) :=
  f_Model_common_L6 G FU a0 a2
theorem c_Model_common {X : XT} {G : GS} {a0 : Int} {a2 : Int} {r : Int} (ha0 : wl a0 = a0) (ha2 : wl a2 = a2) (h : f_Model_common G a0 a2 = some r) : Call X true 6 0 0 M_Model_common [vl a0, vl a2] NC G (Rl r G) := by
  refine Call_of_J cw_Model_common (by decide +kernel) (Nat.le_of_ble_eq_true rfl) ?_
  unfold f_Model_common at h
  show J X true 6 0 0 M_Model_common (Rl r G) NC 0 0 0 [(0, vl a0), (2, vl a2)] [] G
  refine j_lloadn (k := 0) (D_Model_common 0 rfl) rfl rfl ?_
  refine j_lstore (L' := [(4, vl a0), (0, vl a0), (2, vl a2)]) (D_Model_common 1 rfl) (ha0) (by decide) rfl ?_
  refine j_lloadn (k := 2) (D_Model_common 2 rfl) rfl rfl ?_
  refine j_lstore (L' := [(6, vl a2), (4, vl a0), (0, vl a0), (2, vl a2)]) (D_Model_common 3 rfl) (ha2) (by decide) rfl ?_
  refine j_loc [1, 0] rfl ?_
  exact s_Model_common_L6 FU (ha0) (ha2) h
abbrev M_Model_likeParts : MI := (⟨"InquestHallModel", "likeParts", "(IIII)V"⟩, prog_14_method_59_code, 16, none)
theorem cw_Model_likeParts : Cond.code M_Model_likeParts.1 M_Model_likeParts.2.1 M_Model_likeParts.2.2.1 M_Model_likeParts.2.2.2 ∈ TS := mTS (List.mem_of_getElem? (i := 1834) (by decide +kernel)) (by decide +kernel)
theorem lk_Model_456 : Cond.methodLink "InquestHallModel" 456 M_Model_common.1 ∈ TS := mTS (List.mem_of_getElem? (i := 1835) (by decide +kernel)) (by decide +kernel)
theorem sok_Model_common : SOK M_Model_common 2 := ⟨mTS (List.mem_of_getElem? (i := 1836) (by decide +kernel)) (by decide +kernel), mTS (List.mem_of_getElem? (i := 139) (by decide +kernel)) (by decide +kernel), cw_Model_common, ⟨by decide, by decide, by decide +kernel⟩, by decide +kernel, by decide⟩
theorem fa_Model_432 : FA "InquestHallModel" 432 12 61 false .long := ⟨_, _, _, _, ok_Model, by decide, mTS (List.mem_of_getElem? (i := 1362) (by decide +kernel)) (by decide +kernel), rfl, rfl⟩
theorem fa_Model_436 : FA "InquestHallModel" 436 12 62 false .long := ⟨_, _, _, _, ok_Model, by decide, mTS (List.mem_of_getElem? (i := 1363) (by decide +kernel)) (by decide +kernel), rfl, rfl⟩
theorem fa_Model_133 : FA "InquestHallModel" 133 12 60 true (.array .long) := ⟨_, _, _, _, ok_Model, by decide, mTS (List.mem_of_getElem? (i := 1361) (by decide +kernel)) (by decide +kernel), rfl, rfl⟩
theorem fx_81_60 {G : GS} (w : WF true NC G) : G.2.2 81 60 = 121 := w.2 rfl (81, 60, 121) (by decide)
theorem kd_121 : kd 121 = (1, 32) := rfl
theorem lc_121 : 121 < NC := by decide
theorem fa_Model_129 : FA "InquestHallModel" 129 12 59 true (.array .long) := ⟨_, _, _, _, ok_Model, by decide, mTS (List.mem_of_getElem? (i := 1360) (by decide +kernel)) (by decide +kernel), rfl, rfl⟩
theorem fx_81_59 {G : GS} (w : WF true NC G) : G.2.2 81 59 = 120 := w.2 rfl (81, 59, 120) (by decide)
theorem kd_120 : kd 120 = (1, 32) := rfl
theorem lc_120 : 120 < NC := by decide
def tb_Model_likeParts : List (Nat × Instr × Nat) := [(0, .lconst 0, 1), (1, .lstore 5, 2), (3, .lconst 1, 1), (4, .lstore 7, 2), (6, .iload_n 1, 1), (7, .iconst 1, 1), (8, .iadd, 1), (9, .istore 9, 2), (11, .iload 9, 2), (13, .aload_n 0, 1), (14, .getfield 195, 3), (17, .if_icmp .ge 82, 3), (20, .aload_n 0, 1), (21, .iload 9, 2), (23, .iload_n 1, 1), (24, .iload_n 2, 1), (25, .iload_n 3, 1), (26, .invokevirtual 442, 3), (29, .ifCond .ne 6, 3), (32, .goto 61, 3), (35, .lload 5, 2), (37, .aload_n 0, 1), (38, .getfield 133, 3), (41, .iload 9, 2), (43, .laload, 1), (44, .lmul, 1), (45, .aload_n 0, 1), (46, .getfield 129, 3), (49, .iload 9, 2), (51, .laload, 1), (52, .lload 7, 2), (54, .lmul, 1), (55, .ladd, 1), (56, .lstore 10, 2), (58, .lload 7, 2), (60, .aload_n 0, 1), (61, .getfield 133, 3), (64, .iload 9, 2), (66, .laload, 1), (67, .lmul, 1), (68, .lstore 12, 2), (70, .lload 10, 2), (72, .lload 12, 2), (74, .invokestatic 456, 3), (77, .lstore 14, 2), (79, .lload 10, 2), (81, .lload 14, 2), (83, .ldiv, 1), (84, .lstore 5, 2), (86, .lload 12, 2), (88, .lload 14, 2), (90, .ldiv, 1), (91, .lstore 7, 2), (93, .iinc 9 1, 3), (96, .goto (-85), 3), (99, .lload 5, 2), (101, .lload 7, 2), (103, .iload 4, 2), (105, .i2l, 1), (106, .lmul, 1), (107, .invokestatic 456, 3), (110, .lstore 9, 2), (112, .aload_n 0, 1), (113, .lload 5, 2), (115, .lload 9, 2), (117, .ldiv, 1), (118, .putfield 432, 3), (121, .aload_n 0, 1), (122, .lload 7, 2), (124, .iload 4, 2), (126, .i2l, 1), (127, .lmul, 1), (128, .lload 9, 2), (130, .ldiv, 1), (131, .putfield 436, 3), (134, .return_, 1)]
theorem D_Model_likeParts (i : Nat) {pc len : Nat} {ins : Instr} (hi : tb_Model_likeParts[i]? = some (pc, ins, len)) : decode M_Model_likeParts.2.1 pc = .ok (ins, len) := dec_of (by decide +kernel) i hi
def f_Model_likeParts_L93 (k11 : GS → Int → Int → Int → Int → Int → Int → Int → Option (GS)) (G : GS) (x1 : Int) (x2 : Int) (x3 : Int) (x4 : Int) (x5 : Int) (x7 : Int) (x9 : Int) : Option (GS) :=
  k11 G x1 x2 x3 x4 x5 x7 (wr (x9 + 1))
theorem s_Model_likeParts_L93 {X : XT} {r : GS} {k11 : GS → Int → Int → Int → Int → Int → Int → Int → Option (GS)} (hk11 : ∀ {G : GS} {x1 : Int} {x2 : Int} {x3 : Int} {x4 : Int} {x5 : Int} {x7 : Int} {x9 : Int} , wr x1 = x1 → wr x2 = x2 → wr x3 = x3 → wr x4 = x4 → wl x5 = x5 → wl x7 = x7 → wr x9 = x9 → k11 G x1 x2 x3 x4 x5 x7 x9 = some r → J X true 8 0 0 M_Model_likeParts (Rv r) NC 0 0 11 [(0, rf X 81), (1, vi x1), (2, vi x2), (3, vi x3), (4, vi x4), (5, vl x5), (7, vl x7), (9, vi x9)] [] G) : ∀ {G : GS} {x1 : Int} {x2 : Int} {x3 : Int} {x4 : Int} {x5 : Int} {x7 : Int} {x9 : Int}, wr x1 = x1 → wr x2 = x2 → wr x3 = x3 → wr x4 = x4 → wl x5 = x5 → wl x7 = x7 → wr x9 = x9 → f_Model_likeParts_L93 k11 G x1 x2 x3 x4 x5 x7 x9 = some r → J X true 8 0 0 M_Model_likeParts (Rv r) NC 0 0 93 [(0, rf X 81), (1, vi x1), (2, vi x2), (3, vi x3), (4, vi x4), (5, vl x5), (7, vl x7), (9, vi x9)] [] G := by
  intro G x1 x2 x3 x4 x5 x7 x9 hx1 hx2 hx3 hx4 hx5 hx7 hx9 h
  unfold f_Model_likeParts_L93 at h
  refine j_iinc (k := 7) (L' := [(9, vi (wr (x9 + 1))), (0, rf X 81), (1, vi x1), (2, vi x2), (3, vi x3), (4, vi x4), (5, vl x5), (7, vl x7)]) (D_Model_likeParts 53 rfl) rfl rfl (by decide) rfl ?_
  refine j_goto (tgt := 11) (D_Model_likeParts 54 rfl) rfl ?_
  refine j_loc [1, 2, 3, 4, 5, 6, 7, 0] rfl ?_
  exact hk11 (hx1) (hx2) (hx3) (hx4) (hx5) (hx7) (wr_wr _) h
def f_Model_likeParts_L11 : Nat → GS → Int → Int → Int → Int → Int → Int → Int → Option (GS)
  | 0, _, _, _, _, _, _, _, _ => none
  | n + 1, G, x1, x2, x3, x4, x5, x7, x9 =>
    if gi G 81 1 ≤ x9 then
      (f_Model_common G x5 (wl (x7 * x4))).bind fun q1 =>
      gd (¬ q1 = 0) <|
      wG (sl G 81 61 (ldv x5 q1)) fun G1 =>
      gd (¬ q1 = 0) <|
      wG (sl G1 81 62 (ldv (x7 * x4) q1)) fun G2 =>
      some G2
    else
      (f_Model_isOne G x9 x1 x2 x3).bind fun q2 =>
      if q2 = 0 then
        f_Model_likeParts_L93 (f_Model_likeParts_L11 n) G x1 x2 x3 x4 x5 x7 x9
      else
        gd (0 ≤ x9 ∧ x9 < 32) <|
        gd (0 ≤ x9 ∧ x9 < 32) <|
        gd (0 ≤ x9 ∧ x9 < 32) <|
        (f_Model_common G (wl ((x5 * (gl G 121 x9.toNat)) + ((gl G 120 x9.toNat) * x7))) (wl (x7 * (gl G 121 x9.toNat)))).bind fun q3 =>
        gd (¬ q3 = 0) <|
        gd (¬ q3 = 0) <|
        f_Model_likeParts_L93 (f_Model_likeParts_L11 n) G x1 x2 x3 x4 (ldv (wl ((x5 * (gl G 121 x9.toNat)) + ((gl G 120 x9.toNat) * x7))) q3) (ldv (wl (x7 * (gl G 121 x9.toNat))) q3) x9
theorem s_Model_likeParts_L11 {X : XT} {r : GS} : ∀ (n : Nat) {G : GS} {x1 : Int} {x2 : Int} {x3 : Int} {x4 : Int} {x5 : Int} {x7 : Int} {x9 : Int}, wr x1 = x1 → wr x2 = x2 → wr x3 = x3 → wr x4 = x4 → wl x5 = x5 → wl x7 = x7 → wr x9 = x9 → f_Model_likeParts_L11 n G x1 x2 x3 x4 x5 x7 x9 = some r → J X true 8 0 0 M_Model_likeParts (Rv r) NC 0 0 11 [(0, rf X 81), (1, vi x1), (2, vi x2), (3, vi x3), (4, vi x4), (5, vl x5), (7, vl x7), (9, vi x9)] [] G := by
  intro n
  induction n with
  | zero =>
    intro G x1 x2 x3 x4 x5 x7 x9 hx1 hx2 hx3 hx4 hx5 hx7 hx9 h
    exact none_some h
  | succ n ih =>
    intro G x1 x2 x3 x4 x5 x7 x9 hx1 hx2 hx3 hx4 hx5 hx7 hx9 h
    rw [f_Model_likeParts_L11] at h
    refine j_iload (k := 7) (D_Model_likeParts 8 rfl) rfl ?_
    refine j_aloadn (k := 0) (D_Model_likeParts 9 rfl) rfl rfl ?_
    refine j_getI rfl fa_Model_195 kd_81 lc_81 (by decide) rfl (D_Model_likeParts 10 rfl) ?_
    refine j_ic_ge (tgt := 99) (D_Model_likeParts 11 rfl) rfl (hx9) (wr_gi _ _ _) (fun c1 => ?_) (fun c1 => ?_)
    · replace h := ite_t h c1
      refine j_lload (k := 5) (D_Model_likeParts 55 rfl) rfl ?_
      refine j_lload (k := 6) (D_Model_likeParts 56 rfl) rfl ?_
      refine j_iload (k := 4) (D_Model_likeParts 57 rfl) rfl ?_
      refine j_i2l (D_Model_likeParts 58 rfl) (hx4) ?_
      refine j_lmul (D_Model_likeParts 59 rfl) ?_
      refine j_top0l (rfl) ?_
      obtain ⟨q1, e1, h⟩ := Option.bind_eq_some_iff.mp h
      refine j_cSl (c_Model_common (hx5) (wl_wl _) e1) rfl lk_Model_456 sok_Model_common (by decide) rfl rfl (Nat.le_of_ble_eq_true rfl) (D_Model_likeParts 60 rfl) (fun w1 => ?_)
      refine j_lstore (L' := [(9, vl q1), (0, rf X 81), (1, vi x1), (2, vi x2), (3, vi x3), (4, vi x4), (5, vl x5), (7, vl x7)]) (D_Model_likeParts 61 rfl) (w1) (by decide) rfl ?_
      refine j_aloadn (k := 1) (D_Model_likeParts 62 rfl) rfl rfl ?_
      refine j_lload (k := 6) (D_Model_likeParts 63 rfl) rfl ?_
      refine j_lload (k := 0) (D_Model_likeParts 64 rfl) rfl ?_
      have g1 := gd_c h
      replace h := gd_s h
      refine j_ldiv (D_Model_likeParts 65 rfl) (w1) g1 ?_
      refine j_putJ rfl fa_Model_432 kd_81 lc_81 (by decide) rfl (D_Model_likeParts 66 rfl) ?_
      refine j_gen (fun G1 e2 => ?_)
      replace h := wG_at h e2
      refine j_aloadn (k := 1) (D_Model_likeParts 67 rfl) rfl rfl ?_
      refine j_lload (k := 7) (D_Model_likeParts 68 rfl) rfl ?_
      refine j_iload (k := 5) (D_Model_likeParts 69 rfl) rfl ?_
      refine j_i2l (D_Model_likeParts 70 rfl) (hx4) ?_
      refine j_lmul (D_Model_likeParts 71 rfl) ?_
      refine j_lload (k := 0) (D_Model_likeParts 72 rfl) rfl ?_
      have g2 := gd_c h
      replace h := gd_s h
      refine j_ldiv (D_Model_likeParts 73 rfl) (w1) g2 ?_
      refine j_putJ rfl fa_Model_436 kd_81 lc_81 (by decide) rfl (D_Model_likeParts 74 rfl) ?_
      refine j_gen (fun G2 e3 => ?_)
      replace h := wG_at h e3
      exact j_vret (D_Model_likeParts 75 rfl) rfl rfl rfl (leafV h)
    · replace h := ite_f h c1
      refine j_aloadn (k := 0) (D_Model_likeParts 12 rfl) rfl rfl ?_
      refine j_iload (k := 7) (D_Model_likeParts 13 rfl) rfl ?_
      refine j_iloadn (k := 1) (D_Model_likeParts 14 rfl) rfl rfl ?_
      refine j_iloadn (k := 2) (D_Model_likeParts 15 rfl) rfl rfl ?_
      refine j_iloadn (k := 3) (D_Model_likeParts 16 rfl) rfl rfl ?_
      obtain ⟨q2, e4, h⟩ := Option.bind_eq_some_iff.mp h
      refine j_cVz (c_Model_isOne (hx9) (hx1) (hx2) (hx3) e4) rfl lk_Model_442 mok_Model_isOne kd_81 lc_81 rfl (by decide) rfl rfl (Nat.le_of_ble_eq_true rfl) (D_Model_likeParts 17 rfl) (fun w2 bw2 => ?_)
      refine j_if_ne (tgt := 35) (D_Model_likeParts 18 rfl) rfl (w2) (fun c2 => ?_) (fun c2 => ?_)
      · replace h := ite_f h c2
        refine j_lload (k := 5) (D_Model_likeParts 20 rfl) rfl ?_
        refine j_aloadn (k := 0) (D_Model_likeParts 21 rfl) rfl rfl ?_
        refine j_getR rfl fa_Model_133 kd_81 lc_81 (by decide) rfl fx_81_60 (by decide) (D_Model_likeParts 22 rfl) ?_
        refine j_iload (k := 7) (D_Model_likeParts 23 rfl) rfl ?_
        have g3 := gd_c h
        replace h := gd_s h
        refine j_lald (NI := 32) (D_Model_likeParts 24 rfl) kd_121 lc_121 (hx9) rfl g3.1 g3.2 ?_
        refine j_lmul (D_Model_likeParts 25 rfl) ?_
        refine j_aloadn (k := 0) (D_Model_likeParts 26 rfl) rfl rfl ?_
        refine j_getR rfl fa_Model_129 kd_81 lc_81 (by decide) rfl fx_81_59 (by decide) (D_Model_likeParts 27 rfl) ?_
        refine j_iload (k := 7) (D_Model_likeParts 28 rfl) rfl ?_
        have g4 := gd_c h
        replace h := gd_s h
        refine j_lald (NI := 32) (D_Model_likeParts 29 rfl) kd_120 lc_120 (hx9) rfl g4.1 g4.2 ?_
        refine j_lload (k := 6) (D_Model_likeParts 30 rfl) rfl ?_
        refine j_lmul (D_Model_likeParts 31 rfl) ?_
        refine j_ladd (D_Model_likeParts 32 rfl) ?_
        refine j_lstore (L' := [(10, vl (wl ((x5 * (gl G 121 x9.toNat)) + ((gl G 120 x9.toNat) * x7)))), (0, rf X 81), (1, vi x1), (2, vi x2), (3, vi x3), (4, vi x4), (5, vl x5), (7, vl x7), (9, vi x9)]) (D_Model_likeParts 33 rfl) (rfl) (by decide) rfl ?_
        refine j_lload (k := 7) (D_Model_likeParts 34 rfl) rfl ?_
        refine j_aloadn (k := 1) (D_Model_likeParts 35 rfl) rfl rfl ?_
        refine j_getR rfl fa_Model_133 kd_81 lc_81 (by decide) rfl fx_81_60 (by decide) (D_Model_likeParts 36 rfl) ?_
        refine j_iload (k := 8) (D_Model_likeParts 37 rfl) rfl ?_
        have g5 := gd_c h
        replace h := gd_s h
        refine j_lald (NI := 32) (D_Model_likeParts 38 rfl) kd_121 lc_121 (hx9) rfl g5.1 g5.2 ?_
        refine j_lmul (D_Model_likeParts 39 rfl) ?_
        refine j_lstore (L' := [(12, vl (wl (x7 * (gl G 121 x9.toNat)))), (10, vl (wl ((x5 * (gl G 121 x9.toNat)) + ((gl G 120 x9.toNat) * x7)))), (0, rf X 81), (1, vi x1), (2, vi x2), (3, vi x3), (4, vi x4), (5, vl x5), (7, vl x7), (9, vi x9)]) (D_Model_likeParts 40 rfl) (rfl) (by decide) rfl ?_
        refine j_lload (k := 1) (D_Model_likeParts 41 rfl) rfl ?_
        refine j_lload (k := 0) (D_Model_likeParts 42 rfl) rfl ?_
        obtain ⟨q3, e5, h⟩ := Option.bind_eq_some_iff.mp h
        refine j_cSl (c_Model_common (wl_wl _) (wl_wl _) e5) rfl lk_Model_456 sok_Model_common (by decide) rfl rfl (Nat.le_of_ble_eq_true rfl) (D_Model_likeParts 43 rfl) (fun w3 => ?_)
        refine j_lstore (L' := [(14, vl q3), (12, vl (wl (x7 * (gl G 121 x9.toNat)))), (10, vl (wl ((x5 * (gl G 121 x9.toNat)) + ((gl G 120 x9.toNat) * x7)))), (0, rf X 81), (1, vi x1), (2, vi x2), (3, vi x3), (4, vi x4), (5, vl x5), (7, vl x7), (9, vi x9)]) (D_Model_likeParts 44 rfl) (w3) (by decide) rfl ?_
        refine j_lload (k := 2) (D_Model_likeParts 45 rfl) rfl ?_
        refine j_lload (k := 0) (D_Model_likeParts 46 rfl) rfl ?_
        have g6 := gd_c h
        replace h := gd_s h
        refine j_ldiv (D_Model_likeParts 47 rfl) (w3) g6 ?_
        refine j_lstore (L' := [(5, vl (ldv (wl ((x5 * (gl G 121 x9.toNat)) + ((gl G 120 x9.toNat) * x7))) q3)), (14, vl q3), (12, vl (wl (x7 * (gl G 121 x9.toNat)))), (10, vl (wl ((x5 * (gl G 121 x9.toNat)) + ((gl G 120 x9.toNat) * x7)))), (0, rf X 81), (1, vi x1), (2, vi x2), (3, vi x3), (4, vi x4), (7, vl x7), (9, vi x9)]) (D_Model_likeParts 48 rfl) (wl_ldv _ _) (by decide) rfl ?_
        refine j_lload (k := 2) (D_Model_likeParts 49 rfl) rfl ?_
        refine j_lload (k := 1) (D_Model_likeParts 50 rfl) rfl ?_
        have g7 := gd_c h
        replace h := gd_s h
        refine j_ldiv (D_Model_likeParts 51 rfl) (w3) g7 ?_
        refine j_lstore (L' := [(7, vl (ldv (wl (x7 * (gl G 121 x9.toNat))) q3)), (5, vl (ldv (wl ((x5 * (gl G 121 x9.toNat)) + ((gl G 120 x9.toNat) * x7))) q3)), (14, vl q3), (12, vl (wl (x7 * (gl G 121 x9.toNat)))), (10, vl (wl ((x5 * (gl G 121 x9.toNat)) + ((gl G 120 x9.toNat) * x7)))), (0, rf X 81), (1, vi x1), (2, vi x2), (3, vi x3), (4, vi x4), (9, vi x9)]) (D_Model_likeParts 52 rfl) (wl_ldv _ _) (by decide) rfl ?_
        refine j_loc [5, 6, 7, 8, 9, 1, 0, 10] rfl ?_
        exact s_Model_likeParts_L93 ih (hx1) (hx2) (hx3) (hx4) (wl_ldv _ _) (wl_ldv _ _) (hx9) h
      · replace h := ite_t h c2
        refine j_goto (tgt := 93) (D_Model_likeParts 19 rfl) rfl ?_
        refine j_loc [0, 1, 2, 3, 4, 5, 6, 7] rfl ?_
        exact s_Model_likeParts_L93 ih (hx1) (hx2) (hx3) (hx4) (hx5) (hx7) (hx9) h
def f_Model_likeParts (G : GS) (a1 : Int) (a2 : Int) (a3 : Int) (a4 : Int) : Option (GS) :=
  f_Model_likeParts_L11 FU G a1 a2 a3 a4 0 1 (wr (a1 + 1))
theorem c_Model_likeParts {X : XT} {G : GS} {a1 : Int} {a2 : Int} {a3 : Int} {a4 : Int} {r : GS} (ha1 : wr a1 = a1) (ha2 : wr a2 = a2) (ha3 : wr a3 = a3) (ha4 : wr a4 = a4) (h : f_Model_likeParts G a1 a2 a3 a4 = some r) : Call X true 8 0 0 M_Model_likeParts [rf X 81, vi a1, vi a2, vi a3, vi a4] NC G (Rv r) := by
  refine Call_of_J cw_Model_likeParts (by decide +kernel) (Nat.le_of_ble_eq_true rfl) ?_
  unfold f_Model_likeParts at h
  show J X true 8 0 0 M_Model_likeParts (Rv r) NC 0 0 0 [(0, rf X 81), (1, vi a1), (2, vi a2), (3, vi a3), (4, vi a4)] [] G
  refine j_lconst (v := 0) (D_Model_likeParts 0 rfl) rfl ?_
  refine j_lstore (L' := [(5, vl 0), (0, rf X 81), (1, vi a1), (2, vi a2), (3, vi a3), (4, vi a4)]) (D_Model_likeParts 1 rfl) (wl_lit rfl) (by decide) rfl ?_
  refine j_lconst (v := 1) (D_Model_likeParts 2 rfl) rfl ?_
  refine j_lstore (L' := [(7, vl 1), (5, vl 0), (0, rf X 81), (1, vi a1), (2, vi a2), (3, vi a3), (4, vi a4)]) (D_Model_likeParts 3 rfl) (wl_lit rfl) (by decide) rfl ?_
  refine j_iloadn (k := 3) (D_Model_likeParts 4 rfl) rfl rfl ?_
  refine j_iconst (v := 1) (D_Model_likeParts 5 rfl) rfl ?_
  refine j_iadd (D_Model_likeParts 6 rfl) ?_
  refine j_istore (L' := [(9, vi (wr (a1 + 1))), (7, vl 1), (5, vl 0), (0, rf X 81), (1, vi a1), (2, vi a2), (3, vi a3), (4, vi a4)]) (D_Model_likeParts 7 rfl) (rfl) (by decide) rfl ?_
  refine j_loc [3, 4, 5, 6, 7, 2, 1, 0] rfl ?_
  exact s_Model_likeParts_L11 FU (ha1) (ha2) (ha3) (ha4) (wl_lit rfl) (wl_lit rfl) (wr_wr _) h
abbrev M_Model_isOlder : MI := (⟨"InquestHallModel", "isOlder", "(II)Z"⟩, prog_14_method_14_code, 3, (some .boolean))
theorem cw_Model_isOlder : Cond.code M_Model_isOlder.1 M_Model_isOlder.2.1 M_Model_isOlder.2.2.1 M_Model_isOlder.2.2.2 ∈ TS := mTS (List.mem_of_getElem? (i := 1849) (by decide +kernel)) (by decide +kernel)
def tb_Model_isOlder : List (Nat × Instr × Nat) := [(0, .aload_n 0, 1), (1, .getfield 19, 3), (4, .iload_n 1, 1), (5, .iaload, 1), (6, .aload_n 0, 1), (7, .getfield 19, 3), (10, .iload_n 2, 1), (11, .iaload, 1), (12, .if_icmp .eq 24, 3), (15, .aload_n 0, 1), (16, .getfield 19, 3), (19, .iload_n 1, 1), (20, .iaload, 1), (21, .aload_n 0, 1), (22, .getfield 19, 3), (25, .iload_n 2, 1), (26, .iaload, 1), (27, .if_icmp .ge 7, 3), (30, .iconst 1, 1), (31, .goto 4, 3), (34, .iconst 0, 1), (35, .ireturn, 1), (36, .aload_n 0, 1), (37, .getfield 22, 3), (40, .iload_n 1, 1), (41, .iaload, 1), (42, .aload_n 0, 1), (43, .getfield 22, 3), (46, .iload_n 2, 1), (47, .iaload, 1), (48, .if_icmp .lt 23, 3), (51, .aload_n 0, 1), (52, .getfield 22, 3), (55, .iload_n 1, 1), (56, .iaload, 1), (57, .aload_n 0, 1), (58, .getfield 22, 3), (61, .iload_n 2, 1), (62, .iaload, 1), (63, .if_icmp .ne 12, 3), (66, .iload_n 1, 1), (67, .iload_n 2, 1), (68, .if_icmp .ge 7, 3), (71, .iconst 1, 1), (72, .goto 4, 3), (75, .iconst 0, 1), (76, .ireturn, 1)]
theorem D_Model_isOlder (i : Nat) {pc len : Nat} {ins : Instr} (hi : tb_Model_isOlder[i]? = some (pc, ins, len)) : decode M_Model_isOlder.2.1 pc = .ok (ins, len) := dec_of (by decide +kernel) i hi
def f_Model_isOlder (G : GS) (a1 : Int) (a2 : Int) : Option (Int) :=
  gd (0 ≤ a1 ∧ a1 < 32) <|
  gd (0 ≤ a2 ∧ a2 < 32) <|
  if gi G 85 a1.toNat = gi G 85 a2.toNat then
    gd (0 ≤ a1 ∧ a1 < 32) <|
    gd (0 ≤ a2 ∧ a2 < 32) <|
    if gi G 86 a1.toNat < gi G 86 a2.toNat then
      some 1
    else
      gd (0 ≤ a1 ∧ a1 < 32) <|
      gd (0 ≤ a2 ∧ a2 < 32) <|
      if gi G 86 a1.toNat = gi G 86 a2.toNat then
        if a2 ≤ a1 then
          some 0
        else
          some 1
      else
        some 0
  else
    gd (0 ≤ a1 ∧ a1 < 32) <|
    gd (0 ≤ a2 ∧ a2 < 32) <|
    if gi G 85 a2.toNat ≤ gi G 85 a1.toNat then
      some 0
    else
      some 1
theorem c_Model_isOlder {X : XT} {G : GS} {a1 : Int} {a2 : Int} {r : Int} (ha1 : wr a1 = a1) (ha2 : wr a2 = a2) (h : f_Model_isOlder G a1 a2 = some r) : Call X true 6 0 0 M_Model_isOlder [rf X 81, vi a1, vi a2] NC G (Rz r G) := by
  refine Call_of_J cw_Model_isOlder (by decide +kernel) (Nat.le_of_ble_eq_true rfl) ?_
  unfold f_Model_isOlder at h
  show J X true 6 0 0 M_Model_isOlder (Rz r G) NC 0 0 0 [(0, rf X 81), (1, vi a1), (2, vi a2)] [] G
  refine j_aloadn (k := 0) (D_Model_isOlder 0 rfl) rfl rfl ?_
  refine j_getR rfl fa_Model_19 kd_81 lc_81 (by decide) rfl fx_81_5 (by decide) (D_Model_isOlder 1 rfl) ?_
  refine j_iloadn (k := 1) (D_Model_isOlder 2 rfl) rfl rfl ?_
  have g1 := gd_c h
  replace h := gd_s h
  refine j_iald (NI := 32) (D_Model_isOlder 3 rfl) kd_85 lc_85 (ha1) rfl g1.1 g1.2 ?_
  refine j_aloadn (k := 0) (D_Model_isOlder 4 rfl) rfl rfl ?_
  refine j_getR rfl fa_Model_19 kd_81 lc_81 (by decide) rfl fx_81_5 (by decide) (D_Model_isOlder 5 rfl) ?_
  refine j_iloadn (k := 2) (D_Model_isOlder 6 rfl) rfl rfl ?_
  have g2 := gd_c h
  replace h := gd_s h
  refine j_iald (NI := 32) (D_Model_isOlder 7 rfl) kd_85 lc_85 (ha2) rfl g2.1 g2.2 ?_
  refine j_ic_eq (tgt := 36) (D_Model_isOlder 8 rfl) rfl (wr_gi _ _ _) (wr_gi _ _ _) (fun c1 => ?_) (fun c1 => ?_)
  · replace h := ite_t h c1
    refine j_aloadn (k := 0) (D_Model_isOlder 22 rfl) rfl rfl ?_
    refine j_getR rfl fa_Model_22 kd_81 lc_81 (by decide) rfl fx_81_6 (by decide) (D_Model_isOlder 23 rfl) ?_
    refine j_iloadn (k := 1) (D_Model_isOlder 24 rfl) rfl rfl ?_
    have g3 := gd_c h
    replace h := gd_s h
    refine j_iald (NI := 32) (D_Model_isOlder 25 rfl) kd_86 lc_86 (ha1) rfl g3.1 g3.2 ?_
    refine j_aloadn (k := 0) (D_Model_isOlder 26 rfl) rfl rfl ?_
    refine j_getR rfl fa_Model_22 kd_81 lc_81 (by decide) rfl fx_81_6 (by decide) (D_Model_isOlder 27 rfl) ?_
    refine j_iloadn (k := 2) (D_Model_isOlder 28 rfl) rfl rfl ?_
    have g4 := gd_c h
    replace h := gd_s h
    refine j_iald (NI := 32) (D_Model_isOlder 29 rfl) kd_86 lc_86 (ha2) rfl g4.1 g4.2 ?_
    refine j_ic_lt (tgt := 71) (D_Model_isOlder 30 rfl) rfl (wr_gi _ _ _) (wr_gi _ _ _) (fun c2 => ?_) (fun c2 => ?_)
    · replace h := ite_t h c2
      refine j_iconst (v := 1) (D_Model_isOlder 43 rfl) rfl ?_
      refine j_goto (tgt := 76) (D_Model_isOlder 44 rfl) rfl ?_
      exact j_zret (D_Model_isOlder 46 rfl) rfl (wr_lit rfl) (nz_01 (by decide)) rfl rfl (leafZo h (wr_n (wr_lit rfl)) (by decide))
    · replace h := ite_f h c2
      refine j_aloadn (k := 0) (D_Model_isOlder 31 rfl) rfl rfl ?_
      refine j_getR rfl fa_Model_22 kd_81 lc_81 (by decide) rfl fx_81_6 (by decide) (D_Model_isOlder 32 rfl) ?_
      refine j_iloadn (k := 1) (D_Model_isOlder 33 rfl) rfl rfl ?_
      have g5 := gd_c h
      replace h := gd_s h
      refine j_iald (NI := 32) (D_Model_isOlder 34 rfl) kd_86 lc_86 (ha1) rfl g5.1 g5.2 ?_
      refine j_aloadn (k := 0) (D_Model_isOlder 35 rfl) rfl rfl ?_
      refine j_getR rfl fa_Model_22 kd_81 lc_81 (by decide) rfl fx_81_6 (by decide) (D_Model_isOlder 36 rfl) ?_
      refine j_iloadn (k := 2) (D_Model_isOlder 37 rfl) rfl rfl ?_
      have g6 := gd_c h
      replace h := gd_s h
      refine j_iald (NI := 32) (D_Model_isOlder 38 rfl) kd_86 lc_86 (ha2) rfl g6.1 g6.2 ?_
      refine j_ic_ne (tgt := 75) (D_Model_isOlder 39 rfl) rfl (wr_gi _ _ _) (wr_gi _ _ _) (fun c3 => ?_) (fun c3 => ?_)
      · replace h := ite_f h c3
        refine j_iconst (v := 0) (D_Model_isOlder 45 rfl) rfl ?_
        exact j_zret (D_Model_isOlder 46 rfl) rfl (wr_lit rfl) (nz_01 (by decide)) rfl rfl (leafZo h (wr_n (wr_lit rfl)) (by decide))
      · replace h := ite_t h c3
        refine j_iloadn (k := 1) (D_Model_isOlder 40 rfl) rfl rfl ?_
        refine j_iloadn (k := 2) (D_Model_isOlder 41 rfl) rfl rfl ?_
        refine j_ic_ge (tgt := 75) (D_Model_isOlder 42 rfl) rfl (ha1) (ha2) (fun c4 => ?_) (fun c4 => ?_)
        · replace h := ite_t h c4
          refine j_iconst (v := 0) (D_Model_isOlder 45 rfl) rfl ?_
          exact j_zret (D_Model_isOlder 46 rfl) rfl (wr_lit rfl) (nz_01 (by decide)) rfl rfl (leafZo h (wr_n (wr_lit rfl)) (by decide))
        · replace h := ite_f h c4
          refine j_iconst (v := 1) (D_Model_isOlder 43 rfl) rfl ?_
          refine j_goto (tgt := 76) (D_Model_isOlder 44 rfl) rfl ?_
          exact j_zret (D_Model_isOlder 46 rfl) rfl (wr_lit rfl) (nz_01 (by decide)) rfl rfl (leafZo h (wr_n (wr_lit rfl)) (by decide))
  · replace h := ite_f h c1
    refine j_aloadn (k := 0) (D_Model_isOlder 9 rfl) rfl rfl ?_
    refine j_getR rfl fa_Model_19 kd_81 lc_81 (by decide) rfl fx_81_5 (by decide) (D_Model_isOlder 10 rfl) ?_
    refine j_iloadn (k := 1) (D_Model_isOlder 11 rfl) rfl rfl ?_
    have g7 := gd_c h
    replace h := gd_s h
    refine j_iald (NI := 32) (D_Model_isOlder 12 rfl) kd_85 lc_85 (ha1) rfl g7.1 g7.2 ?_
    refine j_aloadn (k := 0) (D_Model_isOlder 13 rfl) rfl rfl ?_
    refine j_getR rfl fa_Model_19 kd_81 lc_81 (by decide) rfl fx_81_5 (by decide) (D_Model_isOlder 14 rfl) ?_
    refine j_iloadn (k := 2) (D_Model_isOlder 15 rfl) rfl rfl ?_
    have g8 := gd_c h
    replace h := gd_s h
    refine j_iald (NI := 32) (D_Model_isOlder 16 rfl) kd_85 lc_85 (ha2) rfl g8.1 g8.2 ?_
    refine j_ic_ge (tgt := 34) (D_Model_isOlder 17 rfl) rfl (wr_gi _ _ _) (wr_gi _ _ _) (fun c5 => ?_) (fun c5 => ?_)
    · replace h := ite_t h c5
      refine j_iconst (v := 0) (D_Model_isOlder 20 rfl) rfl ?_
      exact j_zret (D_Model_isOlder 21 rfl) rfl (wr_lit rfl) (nz_01 (by decide)) rfl rfl (leafZo h (wr_n (wr_lit rfl)) (by decide))
    · replace h := ite_f h c5
      refine j_iconst (v := 1) (D_Model_isOlder 18 rfl) rfl ?_
      refine j_goto (tgt := 35) (D_Model_isOlder 19 rfl) rfl ?_
      exact j_zret (D_Model_isOlder 21 rfl) rfl (wr_lit rfl) (nz_01 (by decide)) rfl rfl (leafZo h (wr_n (wr_lit rfl)) (by decide))
abbrev M_Model_mayBe : MI := (⟨"InquestHallModel", "mayBe", "(III)Z"⟩, prog_14_method_60_code, 6, (some .boolean))
theorem cw_Model_mayBe : Cond.code M_Model_mayBe.1 M_Model_mayBe.2.1 M_Model_mayBe.2.2.1 M_Model_mayBe.2.2.2 ∈ TS := mTS (List.mem_of_getElem? (i := 1845) (by decide +kernel)) (by decide +kernel)
theorem fa_Model_460 : FA "InquestHallModel" 460 12 57 false .int := ⟨_, _, _, _, ok_Model, by decide, mTS (List.mem_of_getElem? (i := 1358) (by decide +kernel)) (by decide +kernel), rfl, rfl⟩
theorem fa_Model_446 : FA "InquestHallModel" 446 12 56 false .int := ⟨_, _, _, _, ok_Model, by decide, mTS (List.mem_of_getElem? (i := 1357) (by decide +kernel)) (by decide +kernel), rfl, rfl⟩
theorem lk_Model_463 : Cond.methodLink "InquestHallModel" 463 M_Model_isOlder.1 ∈ TS := mTS (List.mem_of_getElem? (i := 1846) (by decide +kernel)) (by decide +kernel)
theorem mok_Model_isOlder : MOK M_Model_isOlder 2 := ⟨mTS (List.mem_of_getElem? (i := 1848) (by decide +kernel)) (by decide +kernel), mTS (List.mem_of_getElem? (i := 101) (by decide +kernel)) (by decide +kernel), mTS (List.mem_of_getElem? (i := 139) (by decide +kernel)) (by decide +kernel), cw_Model_isOlder, ⟨by decide, by decide, by decide +kernel⟩, by decide +kernel, by decide⟩
def tb_Model_mayBe : List (Nat × Instr × Nat) := [(0, .iconst 1, 1), (1, .istore 4, 2), (3, .iload_n 2, 1), (4, .iconst 1, 1), (5, .iadd, 1), (6, .istore 5, 2), (8, .iload 5, 2), (10, .aload_n 0, 1), (11, .getfield 195, 3), (14, .if_icmp .ge 136, 3), (17, .iload 5, 2), (19, .iload_n 1, 1), (20, .if_icmp .eq 124, 3), (23, .aload_n 0, 1), (24, .iload 5, 2), (26, .iload_n 2, 1), (27, .iload_n 3, 1), (28, .iconst 0, 1), (29, .invokevirtual 442, 3), (32, .ifCond .ne 6, 3), (35, .goto 109, 3), (38, .aload_n 0, 1), (39, .getfield 460, 3), (42, .ifCond .ne 48, 3), (45, .iload 4, 2), (47, .ifCond .eq 37, 3), (50, .aload_n 0, 1), (51, .getfield 446, 3), (54, .ifCond .ne 16, 3), (57, .aload_n 0, 1), (58, .iload_n 1, 1), (59, .iload 5, 2), (61, .invokevirtual 463, 3), (64, .ifCond .eq 20, 3), (67, .goto 13, 3), (70, .aload_n 0, 1), (71, .iload 5, 2), (73, .iload_n 1, 1), (74, .invokevirtual 463, 3), (77, .ifCond .eq 7, 3), (80, .iconst 1, 1), (81, .goto 4, 3), (84, .iconst 0, 1), (85, .istore 4, 2), (87, .goto 57, 3), (90, .iload 4, 2), (92, .ifCond .eq 49, 3), (95, .aload_n 0, 1), (96, .getfield 446, 3), (99, .ifCond .ne 22, 3), (102, .aload_n 0, 1), (103, .getfield 19, 3), (106, .iload_n 1, 1), (107, .iaload, 1), (108, .aload_n 0, 1), (109, .getfield 22, 3), (112, .iload 5, 2), (114, .iaload, 1), (115, .if_icmp .gt 26, 3), (118, .goto 19, 3), (121, .aload_n 0, 1), (122, .getfield 22, 3), (125, .iload_n 1, 1), (126, .iaload, 1), (127, .aload_n 0, 1), (128, .getfield 19, 3), (131, .iload 5, 2), (133, .iaload, 1), (134, .if_icmp .lt 7, 3), (137, .iconst 1, 1), (138, .goto 4, 3), (141, .iconst 0, 1), (142, .istore 4, 2), (144, .iinc 5 1, 3), (147, .goto (-139), 3), (150, .iload 4, 2), (152, .ireturn, 1)]
theorem D_Model_mayBe (i : Nat) {pc len : Nat} {ins : Instr} (hi : tb_Model_mayBe[i]? = some (pc, ins, len)) : decode M_Model_mayBe.2.1 pc = .ok (ins, len) := dec_of (by decide +kernel) i hi
def f_Model_mayBe_L144 (G : GS) (k8 : Int → Int → Int → Int → Int → Option (Int)) (x1 : Int) (x2 : Int) (x3 : Int) (x4 : Int) (x5 : Int) : Option (Int) :=
  k8 x1 x2 x3 x4 (wr (x5 + 1))
theorem s_Model_mayBe_L144 {X : XT} {G : GS} {r : Int} {k8 : Int → Int → Int → Int → Int → Option (Int)} (hk8 : ∀ {x1 : Int} {x2 : Int} {x3 : Int} {x4 : Int} {x5 : Int} , wr x1 = x1 → wr x2 = x2 → wr x3 = x3 → wr x4 = x4 → wr x5 = x5 → k8 x1 x2 x3 x4 x5 = some r → J X true 8 0 0 M_Model_mayBe (Rz r G) NC 0 0 8 [(0, rf X 81), (1, vi x1), (2, vi x2), (3, vi x3), (4, vi x4), (5, vi x5)] [] G) : ∀ {x1 : Int} {x2 : Int} {x3 : Int} {x4 : Int} {x5 : Int}, wr x1 = x1 → wr x2 = x2 → wr x3 = x3 → wr x4 = x4 → wr x5 = x5 → f_Model_mayBe_L144 G k8 x1 x2 x3 x4 x5 = some r → J X true 8 0 0 M_Model_mayBe (Rz r G) NC 0 0 144 [(0, rf X 81), (1, vi x1), (2, vi x2), (3, vi x3), (4, vi x4), (5, vi x5)] [] G := by
  intro x1 x2 x3 x4 x5 hx1 hx2 hx3 hx4 hx5 h
  unfold f_Model_mayBe_L144 at h
  refine j_iinc (k := 5) (L' := [(5, vi (wr (x5 + 1))), (0, rf X 81), (1, vi x1), (2, vi x2), (3, vi x3), (4, vi x4)]) (D_Model_mayBe 73 rfl) rfl rfl (by decide) rfl ?_
  refine j_goto (tgt := 8) (D_Model_mayBe 74 rfl) rfl ?_
  refine j_loc [1, 2, 3, 4, 5, 0] rfl ?_
  exact hk8 (hx1) (hx2) (hx3) (hx4) (wr_wr _) h
def f_Model_mayBe_L142 (G : GS) (k8 : Int → Int → Int → Int → Int → Option (Int)) (x1 : Int) (x2 : Int) (x3 : Int) (x5 : Int) (s0 : Int) : Option (Int) :=
  f_Model_mayBe_L144 G k8 x1 x2 x3 s0 x5
theorem s_Model_mayBe_L142 {X : XT} {G : GS} {r : Int} {k8 : Int → Int → Int → Int → Int → Option (Int)} (hk8 : ∀ {x1 : Int} {x2 : Int} {x3 : Int} {x4 : Int} {x5 : Int} , wr x1 = x1 → wr x2 = x2 → wr x3 = x3 → wr x4 = x4 → wr x5 = x5 → k8 x1 x2 x3 x4 x5 = some r → J X true 8 0 0 M_Model_mayBe (Rz r G) NC 0 0 8 [(0, rf X 81), (1, vi x1), (2, vi x2), (3, vi x3), (4, vi x4), (5, vi x5)] [] G) : ∀ {x1 : Int} {x2 : Int} {x3 : Int} {x5 : Int} {s0 : Int}, wr x1 = x1 → wr x2 = x2 → wr x3 = x3 → wr x5 = x5 → wr s0 = s0 → f_Model_mayBe_L142 G k8 x1 x2 x3 x5 s0 = some r → J X true 8 0 0 M_Model_mayBe (Rz r G) NC 0 0 142 [(0, rf X 81), (1, vi x1), (2, vi x2), (3, vi x3), (5, vi x5)] [vi s0] G := by
  intro x1 x2 x3 x5 s0 hx1 hx2 hx3 hx5 hs0 h
  unfold f_Model_mayBe_L142 at h
  refine j_istore (L' := [(4, vi s0), (0, rf X 81), (1, vi x1), (2, vi x2), (3, vi x3), (5, vi x5)]) (D_Model_mayBe 72 rfl) (hs0) (by decide) rfl ?_
  refine j_loc [1, 2, 3, 4, 0, 5] rfl ?_
  exact s_Model_mayBe_L144 hk8 (hx1) (hx2) (hx3) (hs0) (hx5) h
def f_Model_mayBe_L141 (G : GS) (k8 : Int → Int → Int → Int → Int → Option (Int)) (x1 : Int) (x2 : Int) (x3 : Int) (x5 : Int) : Option (Int) :=
  f_Model_mayBe_L142 G k8 x1 x2 x3 x5 0
theorem s_Model_mayBe_L141 {X : XT} {G : GS} {r : Int} {k8 : Int → Int → Int → Int → Int → Option (Int)} (hk8 : ∀ {x1 : Int} {x2 : Int} {x3 : Int} {x4 : Int} {x5 : Int} , wr x1 = x1 → wr x2 = x2 → wr x3 = x3 → wr x4 = x4 → wr x5 = x5 → k8 x1 x2 x3 x4 x5 = some r → J X true 8 0 0 M_Model_mayBe (Rz r G) NC 0 0 8 [(0, rf X 81), (1, vi x1), (2, vi x2), (3, vi x3), (4, vi x4), (5, vi x5)] [] G) : ∀ {x1 : Int} {x2 : Int} {x3 : Int} {x5 : Int}, wr x1 = x1 → wr x2 = x2 → wr x3 = x3 → wr x5 = x5 → f_Model_mayBe_L141 G k8 x1 x2 x3 x5 = some r → J X true 8 0 0 M_Model_mayBe (Rz r G) NC 0 0 141 [(0, rf X 81), (1, vi x1), (2, vi x2), (3, vi x3), (5, vi x5)] [] G := by
  intro x1 x2 x3 x5 hx1 hx2 hx3 hx5 h
  unfold f_Model_mayBe_L141 at h
  refine j_iconst (v := 0) (D_Model_mayBe 71 rfl) rfl ?_
  refine j_loc [0, 1, 2, 3, 4] rfl ?_
  exact s_Model_mayBe_L142 hk8 (hx1) (hx2) (hx3) (hx5) (wr_lit rfl) h
def f_Model_mayBe_L137 (G : GS) (k8 : Int → Int → Int → Int → Int → Option (Int)) (x1 : Int) (x2 : Int) (x3 : Int) (x5 : Int) : Option (Int) :=
  f_Model_mayBe_L142 G k8 x1 x2 x3 x5 1
theorem s_Model_mayBe_L137 {X : XT} {G : GS} {r : Int} {k8 : Int → Int → Int → Int → Int → Option (Int)} (hk8 : ∀ {x1 : Int} {x2 : Int} {x3 : Int} {x4 : Int} {x5 : Int} , wr x1 = x1 → wr x2 = x2 → wr x3 = x3 → wr x4 = x4 → wr x5 = x5 → k8 x1 x2 x3 x4 x5 = some r → J X true 8 0 0 M_Model_mayBe (Rz r G) NC 0 0 8 [(0, rf X 81), (1, vi x1), (2, vi x2), (3, vi x3), (4, vi x4), (5, vi x5)] [] G) : ∀ {x1 : Int} {x2 : Int} {x3 : Int} {x5 : Int}, wr x1 = x1 → wr x2 = x2 → wr x3 = x3 → wr x5 = x5 → f_Model_mayBe_L137 G k8 x1 x2 x3 x5 = some r → J X true 8 0 0 M_Model_mayBe (Rz r G) NC 0 0 137 [(0, rf X 81), (1, vi x1), (2, vi x2), (3, vi x3), (5, vi x5)] [] G := by
  intro x1 x2 x3 x5 hx1 hx2 hx3 hx5 h
  unfold f_Model_mayBe_L137 at h
  refine j_iconst (v := 1) (D_Model_mayBe 69 rfl) rfl ?_
  refine j_goto (tgt := 142) (D_Model_mayBe 70 rfl) rfl ?_
  refine j_loc [0, 1, 2, 3, 4] rfl ?_
  exact s_Model_mayBe_L142 hk8 (hx1) (hx2) (hx3) (hx5) (wr_lit rfl) h
def f_Model_mayBe_L85 (G : GS) (k8 : Int → Int → Int → Int → Int → Option (Int)) (x1 : Int) (x2 : Int) (x3 : Int) (x5 : Int) (s0 : Int) : Option (Int) :=
  f_Model_mayBe_L144 G k8 x1 x2 x3 s0 x5
theorem s_Model_mayBe_L85 {X : XT} {G : GS} {r : Int} {k8 : Int → Int → Int → Int → Int → Option (Int)} (hk8 : ∀ {x1 : Int} {x2 : Int} {x3 : Int} {x4 : Int} {x5 : Int} , wr x1 = x1 → wr x2 = x2 → wr x3 = x3 → wr x4 = x4 → wr x5 = x5 → k8 x1 x2 x3 x4 x5 = some r → J X true 8 0 0 M_Model_mayBe (Rz r G) NC 0 0 8 [(0, rf X 81), (1, vi x1), (2, vi x2), (3, vi x3), (4, vi x4), (5, vi x5)] [] G) : ∀ {x1 : Int} {x2 : Int} {x3 : Int} {x5 : Int} {s0 : Int}, wr x1 = x1 → wr x2 = x2 → wr x3 = x3 → wr x5 = x5 → wr s0 = s0 → f_Model_mayBe_L85 G k8 x1 x2 x3 x5 s0 = some r → J X true 8 0 0 M_Model_mayBe (Rz r G) NC 0 0 85 [(0, rf X 81), (1, vi x1), (2, vi x2), (3, vi x3), (5, vi x5)] [vi s0] G := by
  intro x1 x2 x3 x5 s0 hx1 hx2 hx3 hx5 hs0 h
  unfold f_Model_mayBe_L85 at h
  refine j_istore (L' := [(4, vi s0), (0, rf X 81), (1, vi x1), (2, vi x2), (3, vi x3), (5, vi x5)]) (D_Model_mayBe 43 rfl) (hs0) (by decide) rfl ?_
  refine j_goto (tgt := 144) (D_Model_mayBe 44 rfl) rfl ?_
  refine j_loc [1, 2, 3, 4, 0, 5] rfl ?_
  exact s_Model_mayBe_L144 hk8 (hx1) (hx2) (hx3) (hs0) (hx5) h
def f_Model_mayBe_L84 (G : GS) (k8 : Int → Int → Int → Int → Int → Option (Int)) (x1 : Int) (x2 : Int) (x3 : Int) (x5 : Int) : Option (Int) :=
  f_Model_mayBe_L85 G k8 x1 x2 x3 x5 0
theorem s_Model_mayBe_L84 {X : XT} {G : GS} {r : Int} {k8 : Int → Int → Int → Int → Int → Option (Int)} (hk8 : ∀ {x1 : Int} {x2 : Int} {x3 : Int} {x4 : Int} {x5 : Int} , wr x1 = x1 → wr x2 = x2 → wr x3 = x3 → wr x4 = x4 → wr x5 = x5 → k8 x1 x2 x3 x4 x5 = some r → J X true 8 0 0 M_Model_mayBe (Rz r G) NC 0 0 8 [(0, rf X 81), (1, vi x1), (2, vi x2), (3, vi x3), (4, vi x4), (5, vi x5)] [] G) : ∀ {x1 : Int} {x2 : Int} {x3 : Int} {x5 : Int}, wr x1 = x1 → wr x2 = x2 → wr x3 = x3 → wr x5 = x5 → f_Model_mayBe_L84 G k8 x1 x2 x3 x5 = some r → J X true 8 0 0 M_Model_mayBe (Rz r G) NC 0 0 84 [(0, rf X 81), (1, vi x1), (2, vi x2), (3, vi x3), (5, vi x5)] [] G := by
  intro x1 x2 x3 x5 hx1 hx2 hx3 hx5 h
  unfold f_Model_mayBe_L84 at h
  refine j_iconst (v := 0) (D_Model_mayBe 42 rfl) rfl ?_
  refine j_loc [0, 1, 2, 3, 4] rfl ?_
  exact s_Model_mayBe_L85 hk8 (hx1) (hx2) (hx3) (hx5) (wr_lit rfl) h
def f_Model_mayBe_L80 (G : GS) (k8 : Int → Int → Int → Int → Int → Option (Int)) (x1 : Int) (x2 : Int) (x3 : Int) (x5 : Int) : Option (Int) :=
  f_Model_mayBe_L85 G k8 x1 x2 x3 x5 1
theorem s_Model_mayBe_L80 {X : XT} {G : GS} {r : Int} {k8 : Int → Int → Int → Int → Int → Option (Int)} (hk8 : ∀ {x1 : Int} {x2 : Int} {x3 : Int} {x4 : Int} {x5 : Int} , wr x1 = x1 → wr x2 = x2 → wr x3 = x3 → wr x4 = x4 → wr x5 = x5 → k8 x1 x2 x3 x4 x5 = some r → J X true 8 0 0 M_Model_mayBe (Rz r G) NC 0 0 8 [(0, rf X 81), (1, vi x1), (2, vi x2), (3, vi x3), (4, vi x4), (5, vi x5)] [] G) : ∀ {x1 : Int} {x2 : Int} {x3 : Int} {x5 : Int}, wr x1 = x1 → wr x2 = x2 → wr x3 = x3 → wr x5 = x5 → f_Model_mayBe_L80 G k8 x1 x2 x3 x5 = some r → J X true 8 0 0 M_Model_mayBe (Rz r G) NC 0 0 80 [(0, rf X 81), (1, vi x1), (2, vi x2), (3, vi x3), (5, vi x5)] [] G := by
  intro x1 x2 x3 x5 hx1 hx2 hx3 hx5 h
  unfold f_Model_mayBe_L80 at h
  refine j_iconst (v := 1) (D_Model_mayBe 40 rfl) rfl ?_
  refine j_goto (tgt := 85) (D_Model_mayBe 41 rfl) rfl ?_
  refine j_loc [0, 1, 2, 3, 4] rfl ?_
  exact s_Model_mayBe_L85 hk8 (hx1) (hx2) (hx3) (hx5) (wr_lit rfl) h
def f_Model_mayBe_L8 (G : GS) : Nat → Int → Int → Int → Int → Int → Option (Int)
  | 0, _, _, _, _, _ => none
  | n + 1, x1, x2, x3, x4, x5 =>
    if gi G 81 1 ≤ x5 then
      gd (x4 = 0 ∨ x4 = 1) <|
      some x4
    else
      if x5 = x1 then
        f_Model_mayBe_L144 G (f_Model_mayBe_L8 G n) x1 x2 x3 x4 x5
      else
        (f_Model_isOne G x5 x2 x3 0).bind fun q1 =>
        if q1 = 0 then
          f_Model_mayBe_L144 G (f_Model_mayBe_L8 G n) x1 x2 x3 x4 x5
        else
          if gi G 81 57 = 0 then
            if x4 = 0 then
              f_Model_mayBe_L84 G (f_Model_mayBe_L8 G n) x1 x2 x3 x5
            else
              if gi G 81 56 = 0 then
                (f_Model_isOlder G x1 x5).bind fun q3 =>
                if q3 = 0 then
                  f_Model_mayBe_L84 G (f_Model_mayBe_L8 G n) x1 x2 x3 x5
                else
                  f_Model_mayBe_L80 G (f_Model_mayBe_L8 G n) x1 x2 x3 x5
              else
                (f_Model_isOlder G x5 x1).bind fun q2 =>
                if q2 = 0 then
                  f_Model_mayBe_L84 G (f_Model_mayBe_L8 G n) x1 x2 x3 x5
                else
                  f_Model_mayBe_L80 G (f_Model_mayBe_L8 G n) x1 x2 x3 x5
          else
            if x4 = 0 then
              f_Model_mayBe_L141 G (f_Model_mayBe_L8 G n) x1 x2 x3 x5
            else
              if gi G 81 56 = 0 then
                gd (0 ≤ x1 ∧ x1 < 32) <|
                gd (0 ≤ x5 ∧ x5 < 32) <|
                if gi G 86 x5.toNat < gi G 85 x1.toNat then
                  f_Model_mayBe_L141 G (f_Model_mayBe_L8 G n) x1 x2 x3 x5
                else
                  f_Model_mayBe_L137 G (f_Model_mayBe_L8 G n) x1 x2 x3 x5
              else
                gd (0 ≤ x1 ∧ x1 < 32) <|
                gd (0 ≤ x5 ∧ x5 < 32) <|
                if gi G 86 x1.toNat < gi G 85 x5.toNat then
                  f_Model_mayBe_L141 G (f_Model_mayBe_L8 G n) x1 x2 x3 x5
                else
                  f_Model_mayBe_L137 G (f_Model_mayBe_L8 G n) x1 x2 x3 x5
theorem s_Model_mayBe_L8 {X : XT} {G : GS} {r : Int} : ∀ (n : Nat) {x1 : Int} {x2 : Int} {x3 : Int} {x4 : Int} {x5 : Int}, wr x1 = x1 → wr x2 = x2 → wr x3 = x3 → wr x4 = x4 → wr x5 = x5 → f_Model_mayBe_L8 G n x1 x2 x3 x4 x5 = some r → J X true 8 0 0 M_Model_mayBe (Rz r G) NC 0 0 8 [(0, rf X 81), (1, vi x1), (2, vi x2), (3, vi x3), (4, vi x4), (5, vi x5)] [] G := by
  intro n
  induction n with
  | zero =>
    intro x1 x2 x3 x4 x5 hx1 hx2 hx3 hx4 hx5 h
    exact none_some h
  | succ n ih =>
    intro x1 x2 x3 x4 x5 hx1 hx2 hx3 hx4 hx5 h
    rw [f_Model_mayBe_L8] at h
    refine j_iload (k := 5) (D_Model_mayBe 6 rfl) rfl ?_
    refine j_aloadn (k := 0) (D_Model_mayBe 7 rfl) rfl rfl ?_
    refine j_getI rfl fa_Model_195 kd_81 lc_81 (by decide) rfl (D_Model_mayBe 8 rfl) ?_
    refine j_ic_ge (tgt := 150) (D_Model_mayBe 9 rfl) rfl (hx5) (wr_gi _ _ _) (fun c1 => ?_) (fun c1 => ?_)
    · replace h := ite_t h c1
      refine j_iload (k := 4) (D_Model_mayBe 75 rfl) rfl ?_
      have g1 := gd_c h
      replace h := gd_s h
      exact j_zret (D_Model_mayBe 76 rfl) rfl (hx4) (nz_01 g1) rfl rfl (leafZo h (wr_n (hx4)) g1)
    · replace h := ite_f h c1
      refine j_iload (k := 5) (D_Model_mayBe 10 rfl) rfl ?_
      refine j_iloadn (k := 1) (D_Model_mayBe 11 rfl) rfl rfl ?_
      refine j_ic_eq (tgt := 144) (D_Model_mayBe 12 rfl) rfl (hx5) (hx1) (fun c2 => ?_) (fun c2 => ?_)
      · replace h := ite_t h c2
        refine j_loc [0, 1, 2, 3, 4, 5] rfl ?_
        exact s_Model_mayBe_L144 ih (hx1) (hx2) (hx3) (hx4) (hx5) h
      · replace h := ite_f h c2
        refine j_aloadn (k := 0) (D_Model_mayBe 13 rfl) rfl rfl ?_
        refine j_iload (k := 5) (D_Model_mayBe 14 rfl) rfl ?_
        refine j_iloadn (k := 2) (D_Model_mayBe 15 rfl) rfl rfl ?_
        refine j_iloadn (k := 3) (D_Model_mayBe 16 rfl) rfl rfl ?_
        refine j_iconst (v := 0) (D_Model_mayBe 17 rfl) rfl ?_
        obtain ⟨q1, e1, h⟩ := Option.bind_eq_some_iff.mp h
        refine j_cVz (c_Model_isOne (hx5) (hx2) (hx3) (wr_lit rfl) e1) rfl lk_Model_442 mok_Model_isOne kd_81 lc_81 rfl (by decide) rfl rfl (Nat.le_of_ble_eq_true rfl) (D_Model_mayBe 18 rfl) (fun w1 bw1 => ?_)
        refine j_if_ne (tgt := 38) (D_Model_mayBe 19 rfl) rfl (w1) (fun c3 => ?_) (fun c3 => ?_)
        · replace h := ite_f h c3
          refine j_aloadn (k := 0) (D_Model_mayBe 21 rfl) rfl rfl ?_
          refine j_getI rfl fa_Model_460 kd_81 lc_81 (by decide) rfl (D_Model_mayBe 22 rfl) ?_
          refine j_if_ne (tgt := 90) (D_Model_mayBe 23 rfl) rfl (wr_gi _ _ _) (fun c4 => ?_) (fun c4 => ?_)
          · replace h := ite_f h c4
            refine j_iload (k := 4) (D_Model_mayBe 45 rfl) rfl ?_
            refine j_if_eq (tgt := 141) (D_Model_mayBe 46 rfl) rfl (hx4) (fun c5 => ?_) (fun c5 => ?_)
            · replace h := ite_t h c5
              refine j_loc [0, 1, 2, 3, 5] rfl ?_
              exact s_Model_mayBe_L141 ih (hx1) (hx2) (hx3) (hx5) h
            · replace h := ite_f h c5
              refine j_aloadn (k := 0) (D_Model_mayBe 47 rfl) rfl rfl ?_
              refine j_getI rfl fa_Model_446 kd_81 lc_81 (by decide) rfl (D_Model_mayBe 48 rfl) ?_
              refine j_if_ne (tgt := 121) (D_Model_mayBe 49 rfl) rfl (wr_gi _ _ _) (fun c6 => ?_) (fun c6 => ?_)
              · replace h := ite_f h c6
                refine j_aloadn (k := 0) (D_Model_mayBe 60 rfl) rfl rfl ?_
                refine j_getR rfl fa_Model_22 kd_81 lc_81 (by decide) rfl fx_81_6 (by decide) (D_Model_mayBe 61 rfl) ?_
                refine j_iloadn (k := 1) (D_Model_mayBe 62 rfl) rfl rfl ?_
                have g2 := gd_c h
                replace h := gd_s h
                refine j_iald (NI := 32) (D_Model_mayBe 63 rfl) kd_86 lc_86 (hx1) rfl g2.1 g2.2 ?_
                refine j_aloadn (k := 0) (D_Model_mayBe 64 rfl) rfl rfl ?_
                refine j_getR rfl fa_Model_19 kd_81 lc_81 (by decide) rfl fx_81_5 (by decide) (D_Model_mayBe 65 rfl) ?_
                refine j_iload (k := 5) (D_Model_mayBe 66 rfl) rfl ?_
                have g3 := gd_c h
                replace h := gd_s h
                refine j_iald (NI := 32) (D_Model_mayBe 67 rfl) kd_85 lc_85 (hx5) rfl g3.1 g3.2 ?_
                refine j_ic_lt (tgt := 141) (D_Model_mayBe 68 rfl) rfl (wr_gi _ _ _) (wr_gi _ _ _) (fun c7 => ?_) (fun c7 => ?_)
                · replace h := ite_t h c7
                  refine j_loc [0, 1, 2, 3, 5] rfl ?_
                  exact s_Model_mayBe_L141 ih (hx1) (hx2) (hx3) (hx5) h
                · replace h := ite_f h c7
                  refine j_loc [0, 1, 2, 3, 5] rfl ?_
                  exact s_Model_mayBe_L137 ih (hx1) (hx2) (hx3) (hx5) h
              · replace h := ite_t h c6
                refine j_aloadn (k := 0) (D_Model_mayBe 50 rfl) rfl rfl ?_
                refine j_getR rfl fa_Model_19 kd_81 lc_81 (by decide) rfl fx_81_5 (by decide) (D_Model_mayBe 51 rfl) ?_
                refine j_iloadn (k := 1) (D_Model_mayBe 52 rfl) rfl rfl ?_
                have g4 := gd_c h
                replace h := gd_s h
                refine j_iald (NI := 32) (D_Model_mayBe 53 rfl) kd_85 lc_85 (hx1) rfl g4.1 g4.2 ?_
                refine j_aloadn (k := 0) (D_Model_mayBe 54 rfl) rfl rfl ?_
                refine j_getR rfl fa_Model_22 kd_81 lc_81 (by decide) rfl fx_81_6 (by decide) (D_Model_mayBe 55 rfl) ?_
                refine j_iload (k := 5) (D_Model_mayBe 56 rfl) rfl ?_
                have g5 := gd_c h
                replace h := gd_s h
                refine j_iald (NI := 32) (D_Model_mayBe 57 rfl) kd_86 lc_86 (hx5) rfl g5.1 g5.2 ?_
                refine j_ic_gt (tgt := 141) (D_Model_mayBe 58 rfl) rfl (wr_gi _ _ _) (wr_gi _ _ _) (fun c8 => ?_) (fun c8 => ?_)
                · replace h := ite_t h c8
                  refine j_loc [0, 1, 2, 3, 5] rfl ?_
                  exact s_Model_mayBe_L141 ih (hx1) (hx2) (hx3) (hx5) h
                · replace h := ite_f h c8
                  refine j_goto (tgt := 137) (D_Model_mayBe 59 rfl) rfl ?_
                  refine j_loc [0, 1, 2, 3, 5] rfl ?_
                  exact s_Model_mayBe_L137 ih (hx1) (hx2) (hx3) (hx5) h
          · replace h := ite_t h c4
            refine j_iload (k := 4) (D_Model_mayBe 24 rfl) rfl ?_
            refine j_if_eq (tgt := 84) (D_Model_mayBe 25 rfl) rfl (hx4) (fun c9 => ?_) (fun c9 => ?_)
            · replace h := ite_t h c9
              refine j_loc [0, 1, 2, 3, 5] rfl ?_
              exact s_Model_mayBe_L84 ih (hx1) (hx2) (hx3) (hx5) h
            · replace h := ite_f h c9
              refine j_aloadn (k := 0) (D_Model_mayBe 26 rfl) rfl rfl ?_
              refine j_getI rfl fa_Model_446 kd_81 lc_81 (by decide) rfl (D_Model_mayBe 27 rfl) ?_
              refine j_if_ne (tgt := 70) (D_Model_mayBe 28 rfl) rfl (wr_gi _ _ _) (fun c10 => ?_) (fun c10 => ?_)
              · replace h := ite_f h c10
                refine j_aloadn (k := 0) (D_Model_mayBe 35 rfl) rfl rfl ?_
                refine j_iload (k := 5) (D_Model_mayBe 36 rfl) rfl ?_
                refine j_iloadn (k := 1) (D_Model_mayBe 37 rfl) rfl rfl ?_
                obtain ⟨q2, e2, h⟩ := Option.bind_eq_some_iff.mp h
                refine j_cVz (c_Model_isOlder (hx5) (hx1) e2) rfl lk_Model_463 mok_Model_isOlder kd_81 lc_81 rfl (by decide) rfl rfl (Nat.le_of_ble_eq_true rfl) (D_Model_mayBe 38 rfl) (fun w2 bw2 => ?_)
                refine j_if_eq (tgt := 84) (D_Model_mayBe 39 rfl) rfl (w2) (fun c11 => ?_) (fun c11 => ?_)
                · replace h := ite_t h c11
                  refine j_loc [0, 1, 2, 3, 5] rfl ?_
                  exact s_Model_mayBe_L84 ih (hx1) (hx2) (hx3) (hx5) h
                · replace h := ite_f h c11
                  refine j_loc [0, 1, 2, 3, 5] rfl ?_
                  exact s_Model_mayBe_L80 ih (hx1) (hx2) (hx3) (hx5) h
              · replace h := ite_t h c10
                refine j_aloadn (k := 0) (D_Model_mayBe 29 rfl) rfl rfl ?_
                refine j_iloadn (k := 1) (D_Model_mayBe 30 rfl) rfl rfl ?_
                refine j_iload (k := 5) (D_Model_mayBe 31 rfl) rfl ?_
                obtain ⟨q3, e3, h⟩ := Option.bind_eq_some_iff.mp h
                refine j_cVz (c_Model_isOlder (hx1) (hx5) e3) rfl lk_Model_463 mok_Model_isOlder kd_81 lc_81 rfl (by decide) rfl rfl (Nat.le_of_ble_eq_true rfl) (D_Model_mayBe 32 rfl) (fun w3 bw3 => ?_)
                refine j_if_eq (tgt := 84) (D_Model_mayBe 33 rfl) rfl (w3) (fun c12 => ?_) (fun c12 => ?_)
                · replace h := ite_t h c12
                  refine j_loc [0, 1, 2, 3, 5] rfl ?_
                  exact s_Model_mayBe_L84 ih (hx1) (hx2) (hx3) (hx5) h
                · replace h := ite_f h c12
                  refine j_goto (tgt := 80) (D_Model_mayBe 34 rfl) rfl ?_
                  refine j_loc [0, 1, 2, 3, 5] rfl ?_
                  exact s_Model_mayBe_L80 ih (hx1) (hx2) (hx3) (hx5) h
        · replace h := ite_t h c3
          refine j_goto (tgt := 144) (D_Model_mayBe 20 rfl) rfl ?_
          refine j_loc [0, 1, 2, 3, 4, 5] rfl ?_
          exact s_Model_mayBe_L144 ih (hx1) (hx2) (hx3) (hx4) (hx5) h
def f_Model_mayBe (G : GS) (a1 : Int) (a2 : Int) (a3 : Int) : Option (Int) :=
  f_Model_mayBe_L8 G FU a1 a2 a3 1 (wr (a2 + 1))
theorem c_Model_mayBe {X : XT} {G : GS} {a1 : Int} {a2 : Int} {a3 : Int} {r : Int} (ha1 : wr a1 = a1) (ha2 : wr a2 = a2) (ha3 : wr a3 = a3) (h : f_Model_mayBe G a1 a2 a3 = some r) : Call X true 8 0 0 M_Model_mayBe [rf X 81, vi a1, vi a2, vi a3] NC G (Rz r G) := by
  refine Call_of_J cw_Model_mayBe (by decide +kernel) (Nat.le_of_ble_eq_true rfl) ?_
  unfold f_Model_mayBe at h
  show J X true 8 0 0 M_Model_mayBe (Rz r G) NC 0 0 0 [(0, rf X 81), (1, vi a1), (2, vi a2), (3, vi a3)] [] G
  refine j_iconst (v := 1) (D_Model_mayBe 0 rfl) rfl ?_
  refine j_istore (L' := [(4, vi 1), (0, rf X 81), (1, vi a1), (2, vi a2), (3, vi a3)]) (D_Model_mayBe 1 rfl) (wr_lit rfl) (by decide) rfl ?_
  refine j_iloadn (k := 3) (D_Model_mayBe 2 rfl) rfl rfl ?_
  refine j_iconst (v := 1) (D_Model_mayBe 3 rfl) rfl ?_
  refine j_iadd (D_Model_mayBe 4 rfl) ?_
  refine j_istore (L' := [(5, vi (wr (a2 + 1))), (4, vi 1), (0, rf X 81), (1, vi a1), (2, vi a2), (3, vi a3)]) (D_Model_mayBe 5 rfl) (rfl) (by decide) rfl ?_
  refine j_loc [2, 3, 4, 5, 1, 0] rfl ?_
  exact s_Model_mayBe_L8 FU (ha1) (ha2) (ha3) (wr_lit rfl) (wr_wr _) h
abbrev M_Model_chosen : MI := (⟨"InquestHallModel", "chosen", "(II)V"⟩, prog_14_method_61_code, 11, none)
theorem cw_Model_chosen : Cond.code M_Model_chosen.1 M_Model_chosen.2.1 M_Model_chosen.2.2.1 M_Model_chosen.2.2.2 ∈ TS := mTS (List.mem_of_getElem? (i := 1841) (by decide +kernel)) (by decide +kernel)
theorem lk_Model_466 : Cond.methodLink "InquestHallModel" 466 M_Model_mayBe.1 ∈ TS := mTS (List.mem_of_getElem? (i := 1842) (by decide +kernel)) (by decide +kernel)
theorem mok_Model_mayBe : MOK M_Model_mayBe 3 := ⟨mTS (List.mem_of_getElem? (i := 1844) (by decide +kernel)) (by decide +kernel), mTS (List.mem_of_getElem? (i := 100) (by decide +kernel)) (by decide +kernel), mTS (List.mem_of_getElem? (i := 139) (by decide +kernel)) (by decide +kernel), cw_Model_mayBe, ⟨by decide, by decide, by decide +kernel⟩, by decide +kernel, by decide⟩
def tb_Model_chosen : List (Nat × Instr × Nat) := [(0, .lconst 0, 1), (1, .lstore_n 3, 1), (2, .lconst 1, 1), (3, .lstore 5, 2), (5, .iconst 0, 1), (6, .istore 7, 2), (8, .iload_n 1, 1), (9, .iconst 1, 1), (10, .iadd, 1), (11, .istore 8, 2), (13, .iload 8, 2), (15, .aload_n 0, 1), (16, .getfield 195, 3), (19, .if_icmp .ge 144, 3), (22, .aload_n 0, 1), (23, .iload 8, 2), (25, .iload_n 1, 1), (26, .iload_n 2, 1), (27, .iconst 0, 1), (28, .invokevirtual 442, 3), (31, .ifCond .eq 126, 3), (34, .aload_n 0, 1), (35, .iload 8, 2), (37, .iload_n 1, 1), (38, .iload_n 2, 1), (39, .invokevirtual 466, 3), (42, .ifCond .ne 6, 3), (45, .goto 112, 3), (48, .aload_n 0, 1), (49, .getfield 129, 3), (52, .iload 8, 2), (54, .laload, 1), (55, .lload 5, 2), (57, .lmul, 1), (58, .lload_n 3, 1), (59, .aload_n 0, 1), (60, .getfield 133, 3), (63, .iload 8, 2), (65, .laload, 1), (66, .lmul, 1), (67, .lcmp, 1), (68, .ifCond .ge 7, 3), (71, .iconst 1, 1), (72, .goto 4, 3), (75, .iconst 0, 1), (76, .istore 9, 2), (78, .aload_n 0, 1), (79, .getfield 129, 3), (82, .iload 8, 2), (84, .laload, 1), (85, .lload 5, 2), (87, .lmul, 1), (88, .lload_n 3, 1), (89, .aload_n 0, 1), (90, .getfield 133, 3), (93, .iload 8, 2), (95, .laload, 1), (96, .lmul, 1), (97, .lcmp, 1), (98, .ifCond .le 7, 3), (101, .iconst 1, 1), (102, .goto 4, 3), (105, .iconst 0, 1), (106, .istore 10, 2), (108, .iload 7, 2), (110, .ifCond .eq 27, 3), (113, .aload_n 0, 1), (114, .getfield 460, 3), (117, .iconst 2, 1), (118, .if_icmp .ne 11, 3), (121, .iload 10, 2), (123, .ifCond .eq 34, 3), (126, .goto 11, 3), (129, .iload 9, 2), (131, .ifCond .ne 6, 3), (134, .goto 23, 3), (137, .aload_n 0, 1), (138, .getfield 129, 3), (141, .iload 8, 2), (143, .laload, 1), (144, .lstore_n 3, 1), (145, .aload_n 0, 1), (146, .getfield 133, 3), (149, .iload 8, 2), (151, .laload, 1), (152, .lstore 5, 2), (154, .iconst 1, 1), (155, .istore 7, 2), (157, .iinc 8 1, 3), (160, .goto (-147), 3), (163, .aload_n 0, 1), (164, .lload_n 3, 1), (165, .putfield 432, 3), (168, .aload_n 0, 1), (169, .lload 5, 2), (171, .putfield 436, 3), (174, .return_, 1)]
theorem D_Model_chosen (i : Nat) {pc len : Nat} {ins : Instr} (hi : tb_Model_chosen[i]? = some (pc, ins, len)) : decode M_Model_chosen.2.1 pc = .ok (ins, len) := dec_of (by decide +kernel) i hi
def f_Model_chosen_L157 (k13 : GS → Int → Int → Int → Int → Int → Int → Option (GS)) (G : GS) (x1 : Int) (x2 : Int) (x3 : Int) (x5 : Int) (x7 : Int) (x8 : Int) : Option (GS) :=
  k13 G x1 x2 x3 x5 x7 (wr (x8 + 1))
theorem s_Model_chosen_L157 {X : XT} {r : GS} {k13 : GS → Int → Int → Int → Int → Int → Int → Option (GS)} (hk13 : ∀ {G : GS} {x1 : Int} {x2 : Int} {x3 : Int} {x5 : Int} {x7 : Int} {x8 : Int} , wr x1 = x1 → wr x2 = x2 → wl x3 = x3 → wl x5 = x5 → wr x7 = x7 → wr x8 = x8 → k13 G x1 x2 x3 x5 x7 x8 = some r → J X true 9 0 0 M_Model_chosen (Rv r) NC 0 0 13 [(0, rf X 81), (1, vi x1), (2, vi x2), (3, vl x3), (5, vl x5), (7, vi x7), (8, vi x8)] [] G) : ∀ {G : GS} {x1 : Int} {x2 : Int} {x3 : Int} {x5 : Int} {x7 : Int} {x8 : Int}, wr x1 = x1 → wr x2 = x2 → wl x3 = x3 → wl x5 = x5 → wr x7 = x7 → wr x8 = x8 → f_Model_chosen_L157 k13 G x1 x2 x3 x5 x7 x8 = some r → J X true 9 0 0 M_Model_chosen (Rv r) NC 0 0 157 [(0, rf X 81), (1, vi x1), (2, vi x2), (3, vl x3), (5, vl x5), (7, vi x7), (8, vi x8)] [] G := by
  intro G x1 x2 x3 x5 x7 x8 hx1 hx2 hx3 hx5 hx7 hx8 h
  unfold f_Model_chosen_L157 at h
  refine j_iinc (k := 6) (L' := [(8, vi (wr (x8 + 1))), (0, rf X 81), (1, vi x1), (2, vi x2), (3, vl x3), (5, vl x5), (7, vi x7)]) (D_Model_chosen 88 rfl) rfl rfl (by decide) rfl ?_
  refine j_goto (tgt := 13) (D_Model_chosen 89 rfl) rfl ?_
  refine j_loc [1, 2, 3, 4, 5, 6, 0] rfl ?_
  exact hk13 (hx1) (hx2) (hx3) (hx5) (hx7) (wr_wr _) h
def f_Model_chosen_L137 (k13 : GS → Int → Int → Int → Int → Int → Int → Option (GS)) (G : GS) (x1 : Int) (x2 : Int) (x8 : Int) : Option (GS) :=
  gd (0 ≤ x8 ∧ x8 < 32) <|
  gd (0 ≤ x8 ∧ x8 < 32) <|
  f_Model_chosen_L157 k13 G x1 x2 (gl G 120 x8.toNat) (gl G 121 x8.toNat) 1 x8
theorem s_Model_chosen_L137 {X : XT} {r : GS} {k13 : GS → Int → Int → Int → Int → Int → Int → Option (GS)} (hk13 : ∀ {G : GS} {x1 : Int} {x2 : Int} {x3 : Int} {x5 : Int} {x7 : Int} {x8 : Int} , wr x1 = x1 → wr x2 = x2 → wl x3 = x3 → wl x5 = x5 → wr x7 = x7 → wr x8 = x8 → k13 G x1 x2 x3 x5 x7 x8 = some r → J X true 9 0 0 M_Model_chosen (Rv r) NC 0 0 13 [(0, rf X 81), (1, vi x1), (2, vi x2), (3, vl x3), (5, vl x5), (7, vi x7), (8, vi x8)] [] G) : ∀ {G : GS} {x1 : Int} {x2 : Int} {x8 : Int}, wr x1 = x1 → wr x2 = x2 → wr x8 = x8 → f_Model_chosen_L137 k13 G x1 x2 x8 = some r → J X true 9 0 0 M_Model_chosen (Rv r) NC 0 0 137 [(0, rf X 81), (1, vi x1), (2, vi x2), (8, vi x8)] [] G := by
  intro G x1 x2 x8 hx1 hx2 hx8 h
  unfold f_Model_chosen_L137 at h
  refine j_aloadn (k := 0) (D_Model_chosen 76 rfl) rfl rfl ?_
  refine j_getR rfl fa_Model_129 kd_81 lc_81 (by decide) rfl fx_81_59 (by decide) (D_Model_chosen 77 rfl) ?_
  refine j_iload (k := 3) (D_Model_chosen 78 rfl) rfl ?_
  have g1 := gd_c h
  replace h := gd_s h
  refine j_lald (NI := 32) (D_Model_chosen 79 rfl) kd_120 lc_120 (hx8) rfl g1.1 g1.2 ?_
  refine j_lstoren (L' := [(3, vl (gl G 120 x8.toNat)), (0, rf X 81), (1, vi x1), (2, vi x2), (8, vi x8)]) (D_Model_chosen 80 rfl) rfl (wl_gl _ _ _) (by decide) rfl ?_
  refine j_aloadn (k := 1) (D_Model_chosen 81 rfl) rfl rfl ?_
  refine j_getR rfl fa_Model_133 kd_81 lc_81 (by decide) rfl fx_81_60 (by decide) (D_Model_chosen 82 rfl) ?_
  refine j_iload (k := 4) (D_Model_chosen 83 rfl) rfl ?_
  have g2 := gd_c h
  replace h := gd_s h
  refine j_lald (NI := 32) (D_Model_chosen 84 rfl) kd_121 lc_121 (hx8) rfl g2.1 g2.2 ?_
  refine j_lstore (L' := [(5, vl (gl G 121 x8.toNat)), (3, vl (gl G 120 x8.toNat)), (0, rf X 81), (1, vi x1), (2, vi x2), (8, vi x8)]) (D_Model_chosen 85 rfl) (wl_gl _ _ _) (by decide) rfl ?_
  refine j_iconst (v := 1) (D_Model_chosen 86 rfl) rfl ?_
  refine j_istore (L' := [(7, vi 1), (5, vl (gl G 121 x8.toNat)), (3, vl (gl G 120 x8.toNat)), (0, rf X 81), (1, vi x1), (2, vi x2), (8, vi x8)]) (D_Model_chosen 87 rfl) (wr_lit rfl) (by decide) rfl ?_
  refine j_loc [3, 4, 5, 2, 1, 0, 6] rfl ?_
  exact s_Model_chosen_L157 hk13 (hx1) (hx2) (wl_gl _ _ _) (wl_gl _ _ _) (wr_lit rfl) (hx8) h
def f_Model_chosen_L106 (k13 : GS → Int → Int → Int → Int → Int → Int → Option (GS)) (G : GS) (x1 : Int) (x2 : Int) (x3 : Int) (x5 : Int) (x7 : Int) (x8 : Int) (x9 : Int) (s0 : Int) : Option (GS) :=
  if x7 = 0 then
    f_Model_chosen_L137 k13 G x1 x2 x8
  else
    if gi G 81 57 = 2 then
      if s0 = 0 then
        f_Model_chosen_L157 k13 G x1 x2 x3 x5 x7 x8
      else
        f_Model_chosen_L137 k13 G x1 x2 x8
    else
      if x9 = 0 then
        f_Model_chosen_L157 k13 G x1 x2 x3 x5 x7 x8
      else
        f_Model_chosen_L137 k13 G x1 x2 x8
theorem s_Model_chosen_L106 {X : XT} {r : GS} {k13 : GS → Int → Int → Int → Int → Int → Int → Option (GS)} (hk13 : ∀ {G : GS} {x1 : Int} {x2 : Int} {x3 : Int} {x5 : Int} {x7 : Int} {x8 : Int} , wr x1 = x1 → wr x2 = x2 → wl x3 = x3 → wl x5 = x5 → wr x7 = x7 → wr x8 = x8 → k13 G x1 x2 x3 x5 x7 x8 = some r → J X true 9 0 0 M_Model_chosen (Rv r) NC 0 0 13 [(0, rf X 81), (1, vi x1), (2, vi x2), (3, vl x3), (5, vl x5), (7, vi x7), (8, vi x8)] [] G) : ∀ {G : GS} {x1 : Int} {x2 : Int} {x3 : Int} {x5 : Int} {x7 : Int} {x8 : Int} {x9 : Int} {s0 : Int}, wr x1 = x1 → wr x2 = x2 → wl x3 = x3 → wl x5 = x5 → wr x7 = x7 → wr x8 = x8 → wr x9 = x9 → wr s0 = s0 → f_Model_chosen_L106 k13 G x1 x2 x3 x5 x7 x8 x9 s0 = some r → J X true 9 0 0 M_Model_chosen (Rv r) NC 0 0 106 [(0, rf X 81), (1, vi x1), (2, vi x2), (3, vl x3), (5, vl x5), (7, vi x7), (8, vi x8), (9, vi x9)] [vi s0] G := by
  intro G x1 x2 x3 x5 x7 x8 x9 s0 hx1 hx2 hx3 hx5 hx7 hx8 hx9 hs0 h
  unfold f_Model_chosen_L106 at h
  refine j_istore (L' := [(10, vi s0), (0, rf X 81), (1, vi x1), (2, vi x2), (3, vl x3), (5, vl x5), (7, vi x7), (8, vi x8), (9, vi x9)]) (D_Model_chosen 63 rfl) (hs0) (by decide) rfl ?_
  refine j_iload (k := 6) (D_Model_chosen 64 rfl) rfl ?_
  refine j_if_eq (tgt := 137) (D_Model_chosen 65 rfl) rfl (hx7) (fun c1 => ?_) (fun c1 => ?_)
  · replace h := ite_t h c1
    refine j_loc [1, 2, 3, 7] rfl ?_
    exact s_Model_chosen_L137 hk13 (hx1) (hx2) (hx8) h
  · replace h := ite_f h c1
    refine j_aloadn (k := 1) (D_Model_chosen 66 rfl) rfl rfl ?_
    refine j_getI rfl fa_Model_460 kd_81 lc_81 (by decide) rfl (D_Model_chosen 67 rfl) ?_
    refine j_iconst (v := 2) (D_Model_chosen 68 rfl) rfl ?_
    refine j_ic_ne (tgt := 129) (D_Model_chosen 69 rfl) rfl (wr_gi _ _ _) (wr_lit rfl) (fun c2 => ?_) (fun c2 => ?_)
    · replace h := ite_f h c2
      refine j_iload (k := 8) (D_Model_chosen 73 rfl) rfl ?_
      refine j_if_ne (tgt := 137) (D_Model_chosen 74 rfl) rfl (hx9) (fun c3 => ?_) (fun c3 => ?_)
      · replace h := ite_f h c3
        refine j_loc [1, 2, 3, 7] rfl ?_
        exact s_Model_chosen_L137 hk13 (hx1) (hx2) (hx8) h
      · replace h := ite_t h c3
        refine j_goto (tgt := 157) (D_Model_chosen 75 rfl) rfl ?_
        refine j_loc [1, 2, 3, 4, 5, 6, 7] rfl ?_
        exact s_Model_chosen_L157 hk13 (hx1) (hx2) (hx3) (hx5) (hx7) (hx8) h
    · replace h := ite_t h c2
      refine j_iload (k := 0) (D_Model_chosen 70 rfl) rfl ?_
      refine j_if_eq (tgt := 157) (D_Model_chosen 71 rfl) rfl (hs0) (fun c4 => ?_) (fun c4 => ?_)
      · replace h := ite_t h c4
        refine j_loc [1, 2, 3, 4, 5, 6, 7] rfl ?_
        exact s_Model_chosen_L157 hk13 (hx1) (hx2) (hx3) (hx5) (hx7) (hx8) h
      · replace h := ite_f h c4
        refine j_goto (tgt := 137) (D_Model_chosen 72 rfl) rfl ?_
        refine j_loc [1, 2, 3, 7] rfl ?_
        exact s_Model_chosen_L137 hk13 (hx1) (hx2) (hx8) h
def f_Model_chosen_L76 (k13 : GS → Int → Int → Int → Int → Int → Int → Option (GS)) (G : GS) (x1 : Int) (x2 : Int) (x3 : Int) (x5 : Int) (x7 : Int) (x8 : Int) (s0 : Int) : Option (GS) :=
  gd (0 ≤ x8 ∧ x8 < 32) <|
  gd (0 ≤ x8 ∧ x8 < 32) <|
  if lc ((gl G 120 x8.toNat) * x5) (x3 * (gl G 121 x8.toNat)) ≤ 0 then
    f_Model_chosen_L106 k13 G x1 x2 x3 x5 x7 x8 s0 0
  else
    f_Model_chosen_L106 k13 G x1 x2 x3 x5 x7 x8 s0 1
theorem s_Model_chosen_L76 {X : XT} {r : GS} {k13 : GS → Int → Int → Int → Int → Int → Int → Option (GS)} (hk13 : ∀ {G : GS} {x1 : Int} {x2 : Int} {x3 : Int} {x5 : Int} {x7 : Int} {x8 : Int} , wr x1 = x1 → wr x2 = x2 → wl x3 = x3 → wl x5 = x5 → wr x7 = x7 → wr x8 = x8 → k13 G x1 x2 x3 x5 x7 x8 = some r → J X true 9 0 0 M_Model_chosen (Rv r) NC 0 0 13 [(0, rf X 81), (1, vi x1), (2, vi x2), (3, vl x3), (5, vl x5), (7, vi x7), (8, vi x8)] [] G) : ∀ {G : GS} {x1 : Int} {x2 : Int} {x3 : Int} {x5 : Int} {x7 : Int} {x8 : Int} {s0 : Int}, wr x1 = x1 → wr x2 = x2 → wl x3 = x3 → wl x5 = x5 → wr x7 = x7 → wr x8 = x8 → wr s0 = s0 → f_Model_chosen_L76 k13 G x1 x2 x3 x5 x7 x8 s0 = some r → J X true 9 0 0 M_Model_chosen (Rv r) NC 0 0 76 [(0, rf X 81), (1, vi x1), (2, vi x2), (3, vl x3), (5, vl x5), (7, vi x7), (8, vi x8)] [vi s0] G := by
  intro G x1 x2 x3 x5 x7 x8 s0 hx1 hx2 hx3 hx5 hx7 hx8 hs0 h
  unfold f_Model_chosen_L76 at h
  refine j_istore (L' := [(9, vi s0), (0, rf X 81), (1, vi x1), (2, vi x2), (3, vl x3), (5, vl x5), (7, vi x7), (8, vi x8)]) (D_Model_chosen 45 rfl) (hs0) (by decide) rfl ?_
  refine j_aloadn (k := 1) (D_Model_chosen 46 rfl) rfl rfl ?_
  refine j_getR rfl fa_Model_129 kd_81 lc_81 (by decide) rfl fx_81_59 (by decide) (D_Model_chosen 47 rfl) ?_
  refine j_iload (k := 7) (D_Model_chosen 48 rfl) rfl ?_
  have g1 := gd_c h
  replace h := gd_s h
  refine j_lald (NI := 32) (D_Model_chosen 49 rfl) kd_120 lc_120 (hx8) rfl g1.1 g1.2 ?_
  refine j_lload (k := 5) (D_Model_chosen 50 rfl) rfl ?_
  refine j_lmul (D_Model_chosen 51 rfl) ?_
  refine j_lloadn (k := 4) (D_Model_chosen 52 rfl) rfl rfl ?_
  refine j_aloadn (k := 1) (D_Model_chosen 53 rfl) rfl rfl ?_
  refine j_getR rfl fa_Model_133 kd_81 lc_81 (by decide) rfl fx_81_60 (by decide) (D_Model_chosen 54 rfl) ?_
  refine j_iload (k := 7) (D_Model_chosen 55 rfl) rfl ?_
  have g2 := gd_c h
  replace h := gd_s h
  refine j_lald (NI := 32) (D_Model_chosen 56 rfl) kd_121 lc_121 (hx8) rfl g2.1 g2.2 ?_
  refine j_lmul (D_Model_chosen 57 rfl) ?_
  refine j_lcmp (D_Model_chosen 58 rfl) ?_
  refine j_if_le (tgt := 105) (D_Model_chosen 59 rfl) rfl (wr_lc _ _) (fun c1 => ?_) (fun c1 => ?_)
  · replace h := ite_t h c1
    refine j_iconst (v := 0) (D_Model_chosen 62 rfl) rfl ?_
    refine j_loc [1, 2, 3, 4, 5, 6, 7, 0] rfl ?_
    exact s_Model_chosen_L106 hk13 (hx1) (hx2) (hx3) (hx5) (hx7) (hx8) (hs0) (wr_lit rfl) h
  · replace h := ite_f h c1
    refine j_iconst (v := 1) (D_Model_chosen 60 rfl) rfl ?_
    refine j_goto (tgt := 106) (D_Model_chosen 61 rfl) rfl ?_
    refine j_loc [1, 2, 3, 4, 5, 6, 7, 0] rfl ?_
    exact s_Model_chosen_L106 hk13 (hx1) (hx2) (hx3) (hx5) (hx7) (hx8) (hs0) (wr_lit rfl) h
def f_Model_chosen_L13 : Nat → GS → Int → Int → Int → Int → Int → Int → Option (GS)
  | 0, _, _, _, _, _, _, _ => none
  | n + 1, G, x1, x2, x3, x5, x7, x8 =>
    if gi G 81 1 ≤ x8 then
      wG (sl G 81 61 x3) fun G1 =>
      wG (sl G1 81 62 x5) fun G2 =>
      some G2
    else
      (f_Model_isOne G x8 x1 x2 0).bind fun q1 =>
      if q1 = 0 then
        f_Model_chosen_L157 (f_Model_chosen_L13 n) G x1 x2 x3 x5 x7 x8
      else
        (f_Model_mayBe G x8 x1 x2).bind fun q2 =>
        if q2 = 0 then
          f_Model_chosen_L157 (f_Model_chosen_L13 n) G x1 x2 x3 x5 x7 x8
        else
          gd (0 ≤ x8 ∧ x8 < 32) <|
          gd (0 ≤ x8 ∧ x8 < 32) <|
          if 0 ≤ lc ((gl G 120 x8.toNat) * x5) (x3 * (gl G 121 x8.toNat)) then
            f_Model_chosen_L76 (f_Model_chosen_L13 n) G x1 x2 x3 x5 x7 x8 0
          else
            f_Model_chosen_L76 (f_Model_chosen_L13 n) G x1 x2 x3 x5 x7 x8 1
theorem s_Model_chosen_L13 {X : XT} {r : GS} : ∀ (n : Nat) {G : GS} {x1 : Int} {x2 : Int} {x3 : Int} {x5 : Int} {x7 : Int} {x8 : Int}, wr x1 = x1 → wr x2 = x2 → wl x3 = x3 → wl x5 = x5 → wr x7 = x7 → wr x8 = x8 → f_Model_chosen_L13 n G x1 x2 x3 x5 x7 x8 = some r → J X true 9 0 0 M_Model_chosen (Rv r) NC 0 0 13 [(0, rf X 81), (1, vi x1), (2, vi x2), (3, vl x3), (5, vl x5), (7, vi x7), (8, vi x8)] [] G := by
  intro n
  induction n with
  | zero =>
    intro G x1 x2 x3 x5 x7 x8 hx1 hx2 hx3 hx5 hx7 hx8 h
    exact none_some h
  | succ n ih =>
    intro G x1 x2 x3 x5 x7 x8 hx1 hx2 hx3 hx5 hx7 hx8 h
    rw [f_Model_chosen_L13] at h
    refine j_iload (k := 6) (D_Model_chosen 10 rfl) rfl ?_
    refine j_aloadn (k := 0) (D_Model_chosen 11 rfl) rfl rfl ?_
    refine j_getI rfl fa_Model_195 kd_81 lc_81 (by decide) rfl (D_Model_chosen 12 rfl) ?_
    refine j_ic_ge (tgt := 163) (D_Model_chosen 13 rfl) rfl (hx8) (wr_gi _ _ _) (fun c1 => ?_) (fun c1 => ?_)
    · replace h := ite_t h c1
      refine j_aloadn (k := 0) (D_Model_chosen 90 rfl) rfl rfl ?_
      refine j_lloadn (k := 3) (D_Model_chosen 91 rfl) rfl rfl ?_
      refine j_putJ rfl fa_Model_432 kd_81 lc_81 (by decide) rfl (D_Model_chosen 92 rfl) ?_
      refine j_gen (fun G1 e1 => ?_)
      replace h := wG_at h e1
      refine j_aloadn (k := 0) (D_Model_chosen 93 rfl) rfl rfl ?_
      refine j_lload (k := 4) (D_Model_chosen 94 rfl) rfl ?_
      refine j_putJ rfl fa_Model_436 kd_81 lc_81 (by decide) rfl (D_Model_chosen 95 rfl) ?_
      refine j_gen (fun G2 e2 => ?_)
      replace h := wG_at h e2
      exact j_vret (D_Model_chosen 96 rfl) rfl rfl rfl (leafV h)
    · replace h := ite_f h c1
      refine j_aloadn (k := 0) (D_Model_chosen 14 rfl) rfl rfl ?_
      refine j_iload (k := 6) (D_Model_chosen 15 rfl) rfl ?_
      refine j_iloadn (k := 1) (D_Model_chosen 16 rfl) rfl rfl ?_
      refine j_iloadn (k := 2) (D_Model_chosen 17 rfl) rfl rfl ?_
      refine j_iconst (v := 0) (D_Model_chosen 18 rfl) rfl ?_
      obtain ⟨q1, e3, h⟩ := Option.bind_eq_some_iff.mp h
      refine j_cVz (c_Model_isOne (hx8) (hx1) (hx2) (wr_lit rfl) e3) rfl lk_Model_442 mok_Model_isOne kd_81 lc_81 rfl (by decide) rfl rfl (Nat.le_of_ble_eq_true rfl) (D_Model_chosen 19 rfl) (fun w1 bw1 => ?_)
      refine j_if_eq (tgt := 157) (D_Model_chosen 20 rfl) rfl (w1) (fun c2 => ?_) (fun c2 => ?_)
      · replace h := ite_t h c2
        refine j_loc [0, 1, 2, 3, 4, 5, 6] rfl ?_
        exact s_Model_chosen_L157 ih (hx1) (hx2) (hx3) (hx5) (hx7) (hx8) h
      · replace h := ite_f h c2
        refine j_aloadn (k := 0) (D_Model_chosen 21 rfl) rfl rfl ?_
        refine j_iload (k := 6) (D_Model_chosen 22 rfl) rfl ?_
        refine j_iloadn (k := 1) (D_Model_chosen 23 rfl) rfl rfl ?_
        refine j_iloadn (k := 2) (D_Model_chosen 24 rfl) rfl rfl ?_
        obtain ⟨q2, e4, h⟩ := Option.bind_eq_some_iff.mp h
        refine j_cVz (c_Model_mayBe (hx8) (hx1) (hx2) e4) rfl lk_Model_466 mok_Model_mayBe kd_81 lc_81 rfl (by decide) rfl rfl (Nat.le_of_ble_eq_true rfl) (D_Model_chosen 25 rfl) (fun w2 bw2 => ?_)
        refine j_if_ne (tgt := 48) (D_Model_chosen 26 rfl) rfl (w2) (fun c3 => ?_) (fun c3 => ?_)
        · replace h := ite_f h c3
          refine j_aloadn (k := 0) (D_Model_chosen 28 rfl) rfl rfl ?_
          refine j_getR rfl fa_Model_129 kd_81 lc_81 (by decide) rfl fx_81_59 (by decide) (D_Model_chosen 29 rfl) ?_
          refine j_iload (k := 6) (D_Model_chosen 30 rfl) rfl ?_
          have g1 := gd_c h
          replace h := gd_s h
          refine j_lald (NI := 32) (D_Model_chosen 31 rfl) kd_120 lc_120 (hx8) rfl g1.1 g1.2 ?_
          refine j_lload (k := 4) (D_Model_chosen 32 rfl) rfl ?_
          refine j_lmul (D_Model_chosen 33 rfl) ?_
          refine j_lloadn (k := 3) (D_Model_chosen 34 rfl) rfl rfl ?_
          refine j_aloadn (k := 0) (D_Model_chosen 35 rfl) rfl rfl ?_
          refine j_getR rfl fa_Model_133 kd_81 lc_81 (by decide) rfl fx_81_60 (by decide) (D_Model_chosen 36 rfl) ?_
          refine j_iload (k := 6) (D_Model_chosen 37 rfl) rfl ?_
          have g2 := gd_c h
          replace h := gd_s h
          refine j_lald (NI := 32) (D_Model_chosen 38 rfl) kd_121 lc_121 (hx8) rfl g2.1 g2.2 ?_
          refine j_lmul (D_Model_chosen 39 rfl) ?_
          refine j_lcmp (D_Model_chosen 40 rfl) ?_
          refine j_if_ge (tgt := 75) (D_Model_chosen 41 rfl) rfl (wr_lc _ _) (fun c4 => ?_) (fun c4 => ?_)
          · replace h := ite_t h c4
            refine j_iconst (v := 0) (D_Model_chosen 44 rfl) rfl ?_
            refine j_loc [0, 1, 2, 3, 4, 5, 6] rfl ?_
            exact s_Model_chosen_L76 ih (hx1) (hx2) (hx3) (hx5) (hx7) (hx8) (wr_lit rfl) h
          · replace h := ite_f h c4
            refine j_iconst (v := 1) (D_Model_chosen 42 rfl) rfl ?_
            refine j_goto (tgt := 76) (D_Model_chosen 43 rfl) rfl ?_
            refine j_loc [0, 1, 2, 3, 4, 5, 6] rfl ?_
            exact s_Model_chosen_L76 ih (hx1) (hx2) (hx3) (hx5) (hx7) (hx8) (wr_lit rfl) h
        · replace h := ite_t h c3
          refine j_goto (tgt := 157) (D_Model_chosen 27 rfl) rfl ?_
          refine j_loc [0, 1, 2, 3, 4, 5, 6] rfl ?_
          exact s_Model_chosen_L157 ih (hx1) (hx2) (hx3) (hx5) (hx7) (hx8) h
def f_Model_chosen (G : GS) (a1 : Int) (a2 : Int) : Option (GS) :=
  f_Model_chosen_L13 FU G a1 a2 0 1 0 (wr (a1 + 1))
theorem c_Model_chosen {X : XT} {G : GS} {a1 : Int} {a2 : Int} {r : GS} (ha1 : wr a1 = a1) (ha2 : wr a2 = a2) (h : f_Model_chosen G a1 a2 = some r) : Call X true 9 0 0 M_Model_chosen [rf X 81, vi a1, vi a2] NC G (Rv r) := by
  refine Call_of_J cw_Model_chosen (by decide +kernel) (Nat.le_of_ble_eq_true rfl) ?_
  unfold f_Model_chosen at h
  show J X true 9 0 0 M_Model_chosen (Rv r) NC 0 0 0 [(0, rf X 81), (1, vi a1), (2, vi a2)] [] G
  refine j_lconst (v := 0) (D_Model_chosen 0 rfl) rfl ?_
  refine j_lstoren (L' := [(3, vl 0), (0, rf X 81), (1, vi a1), (2, vi a2)]) (D_Model_chosen 1 rfl) rfl (wl_lit rfl) (by decide) rfl ?_
  refine j_lconst (v := 1) (D_Model_chosen 2 rfl) rfl ?_
  refine j_lstore (L' := [(5, vl 1), (3, vl 0), (0, rf X 81), (1, vi a1), (2, vi a2)]) (D_Model_chosen 3 rfl) (wl_lit rfl) (by decide) rfl ?_
  refine j_iconst (v := 0) (D_Model_chosen 4 rfl) rfl ?_
  refine j_istore (L' := [(7, vi 0), (5, vl 1), (3, vl 0), (0, rf X 81), (1, vi a1), (2, vi a2)]) (D_Model_chosen 5 rfl) (wr_lit rfl) (by decide) rfl ?_
  refine j_iloadn (k := 4) (D_Model_chosen 6 rfl) rfl rfl ?_
  refine j_iconst (v := 1) (D_Model_chosen 7 rfl) rfl ?_
  refine j_iadd (D_Model_chosen 8 rfl) ?_
  refine j_istore (L' := [(8, vi (wr (a1 + 1))), (7, vi 0), (5, vl 1), (3, vl 0), (0, rf X 81), (1, vi a1), (2, vi a2)]) (D_Model_chosen 9 rfl) (rfl) (by decide) rfl ?_
  refine j_loc [4, 5, 6, 3, 2, 1, 0] rfl ?_
  exact s_Model_chosen_L13 FU (ha1) (ha2) (wl_lit rfl) (wl_lit rfl) (wr_lit rfl) (wr_wr _) h
