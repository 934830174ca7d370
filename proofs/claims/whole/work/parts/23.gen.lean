/-! printed by wip/whole/gen.py out of the listing of the bytecode -/
abbrev M_Model_dowerDue : MI := (⟨"InquestHallModel", "dowerDue", "(II)I"⟩, prog_14_method_77_code, 6, (some .int))
theorem cw_Model_dowerDue : Cond.code M_Model_dowerDue.1 M_Model_dowerDue.2.1 M_Model_dowerDue.2.2.1 M_Model_dowerDue.2.2.2 ∈ TS := mTS (List.mem_of_getElem? (i := 1908) (by decide +kernel)) (by decide +kernel)
def tb_Model_dowerDue : List (Nat × Instr × Nat) := [(0, .aload_n 0, 1), (1, .aload_n 0, 1), (2, .getfield 25, 3), (5, .iload_n 1, 1), (6, .iaload, 1), (7, .invokevirtual 417, 3), (10, .istore_n 3, 1), (11, .aload_n 0, 1), (12, .iload_n 2, 1), (13, .invokevirtual 222, 3), (16, .i2l, 1), (17, .aload_n 0, 1), (18, .getfield 52, 3), (21, .iload_n 3, 1), (22, .iaload, 1), (23, .i2l, 1), (24, .lmul, 1), (25, .lstore 4, 2), (27, .lload 4, 2), (29, .aload_n 0, 1), (30, .getfield 55, 3), (33, .iload_n 3, 1), (34, .iaload, 1), (35, .i2l, 1), (36, .ladd, 1), (37, .lconst 1, 1), (38, .lsub, 1), (39, .aload_n 0, 1), (40, .getfield 55, 3), (43, .iload_n 3, 1), (44, .iaload, 1), (45, .i2l, 1), (46, .ldiv, 1), (47, .l2i, 1), (48, .ireturn, 1)]
theorem D_Model_dowerDue (i : Nat) {pc len : Nat} {ins : Instr} (hi : tb_Model_dowerDue[i]? = some (pc, ins, len)) : decode M_Model_dowerDue.2.1 pc = .ok (ins, len) := dec_of (by decide +kernel) i hi
def f_Model_dowerDue (G : GS) (a1 : Int) (a2 : Int) : Option (Int) :=
  gd (0 ≤ a1 ∧ a1 < 32) <|
  (f_Model_reignOn G (gi G 87 a1.toNat)).bind fun q1 =>
  (f_Model_worthOf G a2).bind fun q2 =>
  gd (0 ≤ q1 ∧ q1 < 4) <|
  gd (0 ≤ q1 ∧ q1 < 4) <|
  gd (0 ≤ q1 ∧ q1 < 4) <|
  gd (¬ wl (gi G 97 q1.toNat) = 0) <|
  some (wr (ldv (((wl (q2 * (gi G 96 q1.toNat))) + (gi G 97 q1.toNat)) - 1) (gi G 97 q1.toNat)))
theorem c_Model_dowerDue {X : XT} {G : GS} {a1 : Int} {a2 : Int} {r : Int} (ha1 : wr a1 = a1) (ha2 : wr a2 = a2) (h : f_Model_dowerDue G a1 a2 = some r) : Call X true 7 0 0 M_Model_dowerDue [rf X 81, vi a1, vi a2] NC G (Ri r G) := by
  refine Call_of_J cw_Model_dowerDue (by decide +kernel) (Nat.le_of_ble_eq_true rfl) ?_
  unfold f_Model_dowerDue at h
  show J X true 7 0 0 M_Model_dowerDue (Ri r G) NC 0 0 0 [(0, rf X 81), (1, vi a1), (2, vi a2)] [] G
  refine j_aloadn (k := 0) (D_Model_dowerDue 0 rfl) rfl rfl ?_
  refine j_aloadn (k := 0) (D_Model_dowerDue 1 rfl) rfl rfl ?_
  refine j_getR rfl fa_Model_25 kd_81 lc_81 (by decide) rfl fx_81_7 (by decide) (D_Model_dowerDue 2 rfl) ?_
  refine j_iloadn (k := 1) (D_Model_dowerDue 3 rfl) rfl rfl ?_
  have g1 := gd_c h
  replace h := gd_s h
  refine j_iald (NI := 32) (D_Model_dowerDue 4 rfl) kd_87 lc_87 (ha1) rfl g1.1 g1.2 ?_
  obtain ⟨q1, e1, h⟩ := Option.bind_eq_some_iff.mp h
  refine j_cVi (c_Model_reignOn (wr_gi _ _ _) e1) rfl lk_Model_417 mok_Model_reignOn kd_81 lc_81 rfl (by decide) rfl rfl (Nat.le_of_ble_eq_true rfl) (D_Model_dowerDue 5 rfl) (fun w1 => ?_)
  refine j_istoren (L' := [(3, vi q1), (0, rf X 81), (1, vi a1), (2, vi a2)]) (D_Model_dowerDue 6 rfl) rfl (w1) (by decide) rfl ?_
  refine j_aloadn (k := 1) (D_Model_dowerDue 7 rfl) rfl rfl ?_
  refine j_iloadn (k := 3) (D_Model_dowerDue 8 rfl) rfl rfl ?_
  obtain ⟨q2, e2, h⟩ := Option.bind_eq_some_iff.mp h
  refine j_cVi (c_Model_worthOf (ha2) e2) rfl lk_Model_222 mok_Model_worthOf kd_81 lc_81 rfl (by decide) rfl rfl (Nat.le_of_ble_eq_true rfl) (D_Model_dowerDue 9 rfl) (fun w2 => ?_)
  refine j_i2l (D_Model_dowerDue 10 rfl) (w2) ?_
  refine j_aloadn (k := 1) (D_Model_dowerDue 11 rfl) rfl rfl ?_
  refine j_getR rfl fa_Model_52 kd_81 lc_81 (by decide) rfl fx_81_18 (by decide) (D_Model_dowerDue 12 rfl) ?_
  refine j_iloadn (k := 0) (D_Model_dowerDue 13 rfl) rfl rfl ?_
  have g2 := gd_c h
  replace h := gd_s h
  refine j_iald (NI := 4) (D_Model_dowerDue 14 rfl) kd_96 lc_96 (w1) rfl g2.1 g2.2 ?_
  refine j_i2l (D_Model_dowerDue 15 rfl) (wr_gi _ _ _) ?_
  refine j_lmul (D_Model_dowerDue 16 rfl) ?_
  refine j_lstore (L' := [(4, vl (wl (q2 * (gi G 96 q1.toNat)))), (3, vi q1), (0, rf X 81), (1, vi a1), (2, vi a2)]) (D_Model_dowerDue 17 rfl) (rfl) (by decide) rfl ?_
  refine j_lload (k := 0) (D_Model_dowerDue 18 rfl) rfl ?_
  refine j_aloadn (k := 2) (D_Model_dowerDue 19 rfl) rfl rfl ?_
  refine j_getR rfl fa_Model_55 kd_81 lc_81 (by decide) rfl fx_81_19 (by decide) (D_Model_dowerDue 20 rfl) ?_
  refine j_iloadn (k := 1) (D_Model_dowerDue 21 rfl) rfl rfl ?_
  have g3 := gd_c h
  replace h := gd_s h
  refine j_iald (NI := 4) (D_Model_dowerDue 22 rfl) kd_97 lc_97 (w1) rfl g3.1 g3.2 ?_
  refine j_i2l (D_Model_dowerDue 23 rfl) (wr_gi _ _ _) ?_
  refine j_ladd (D_Model_dowerDue 24 rfl) ?_
  refine j_lconst (v := 1) (D_Model_dowerDue 25 rfl) rfl ?_
  refine j_lsub (D_Model_dowerDue 26 rfl) ?_
  refine j_aloadn (k := 2) (D_Model_dowerDue 27 rfl) rfl rfl ?_
  refine j_getR rfl fa_Model_55 kd_81 lc_81 (by decide) rfl fx_81_19 (by decide) (D_Model_dowerDue 28 rfl) ?_
  refine j_iloadn (k := 1) (D_Model_dowerDue 29 rfl) rfl rfl ?_
  have g4 := gd_c h
  replace h := gd_s h
  refine j_iald (NI := 4) (D_Model_dowerDue 30 rfl) kd_97 lc_97 (w1) rfl g4.1 g4.2 ?_
  refine j_i2l (D_Model_dowerDue 31 rfl) (wr_gi _ _ _) ?_
  have g5 := gd_c h
  replace h := gd_s h
  refine j_ldiv (D_Model_dowerDue 32 rfl) (rfl) g5 ?_
  refine j_l2i (D_Model_dowerDue 33 rfl) ?_
  exact j_iret (D_Model_dowerDue 34 rfl) rfl (rfl) rfl rfl (leafIo h (wr_n (rfl)))
abbrev M_Model_lays : MI := (⟨"InquestHallModel", "lays", "(II)V"⟩, prog_14_method_78_code, 8, none)
theorem cw_Model_lays : Cond.code M_Model_lays.1 M_Model_lays.2.1 M_Model_lays.2.2.1 M_Model_lays.2.2.2 ∈ TS := mTS (List.mem_of_getElem? (i := 1912) (by decide +kernel)) (by decide +kernel)
theorem fa_Model_519 : FA "InquestHallModel" 519 12 64 false .int := ⟨_, _, _, _, ok_Model, by decide, mTS (List.mem_of_getElem? (i := 1365) (by decide +kernel)) (by decide +kernel), rfl, rfl⟩
theorem fa_Model_522 : FA "InquestHallModel" 522 12 65 false .int := ⟨_, _, _, _, ok_Model, by decide, mTS (List.mem_of_getElem? (i := 1366) (by decide +kernel)) (by decide +kernel), rfl, rfl⟩
def tb_Model_lays : List (Nat × Instr × Nat) := [(0, .aload_n 0, 1), (1, .iconst 0, 1), (2, .putfield 519, 3), (5, .iconst (-1), 1), (6, .istore_n 3, 1), (7, .iconst (-1), 1), (8, .istore 4, 2), (10, .iconst 0, 1), (11, .istore 5, 2), (13, .iload 5, 2), (15, .bipush 6, 2), (17, .if_icmp .ge 99, 3), (20, .aload_n 0, 1), (21, .getfield 43, 3), (24, .bipush 6, 2), (26, .iload_n 1, 1), (27, .imul, 1), (28, .iload 5, 2), (30, .iadd, 1), (31, .iaload, 1), (32, .istore 6, 2), (34, .iload_n 2, 1), (35, .iload 5, 2), (37, .ishr, 1), (38, .iconst 1, 1), (39, .iand, 1), (40, .ifCond .eq 70, 3), (43, .iload 6, 2), (45, .ifCond .ne 6, 3), (48, .goto 62, 3), (51, .aload_n 0, 1), (52, .getfield 46, 3), (55, .bipush 6, 2), (57, .iload_n 1, 1), (58, .imul, 1), (59, .iload 5, 2), (61, .iadd, 1), (62, .iaload, 1), (63, .istore 7, 2), (65, .aload_n 0, 1), (66, .dup, 1), (67, .getfield 519, 3), (70, .iload 6, 2), (72, .iadd, 1), (73, .putfield 519, 3), (76, .iload_n 3, 1), (77, .iconst (-1), 1), (78, .if_icmp .eq 9, 3), (81, .iload 7, 2), (83, .iload_n 3, 1), (84, .if_icmp .ge 8, 3), (87, .iload 7, 2), (89, .goto 4, 3), (92, .iload_n 3, 1), (93, .istore_n 3, 1), (94, .iload 7, 2), (96, .iload 4, 2), (98, .if_icmp .le 8, 3), (101, .iload 7, 2), (103, .goto 5, 3), (106, .iload 4, 2), (108, .istore 4, 2), (110, .iinc 5 1, 3), (113, .goto (-100), 3), (116, .aload_n 0, 1), (117, .iload 4, 2), (119, .iload_n 3, 1), (120, .isub, 1), (121, .putfield 522, 3), (124, .return_, 1)]
theorem D_Model_lays (i : Nat) {pc len : Nat} {ins : Instr} (hi : tb_Model_lays[i]? = some (pc, ins, len)) : decode M_Model_lays.2.1 pc = .ok (ins, len) := dec_of (by decide +kernel) i hi
def f_Model_lays_L110 (k13 : GS → Int → Int → Int → Int → Int → Option (GS)) (G : GS) (x1 : Int) (x2 : Int) (x3 : Int) (x4 : Int) (x5 : Int) : Option (GS) :=
  k13 G x1 x2 x3 x4 (wr (x5 + 1))
theorem s_Model_lays_L110 {X : XT} {r : GS} {k13 : GS → Int → Int → Int → Int → Int → Option (GS)} (hk13 : ∀ {G : GS} {x1 : Int} {x2 : Int} {x3 : Int} {x4 : Int} {x5 : Int} , wr x1 = x1 → wr x2 = x2 → wr x3 = x3 → wr x4 = x4 → wr x5 = x5 → k13 G x1 x2 x3 x4 x5 = some r → J X true 6 0 0 M_Model_lays (Rv r) NC 0 0 13 [(0, rf X 81), (1, vi x1), (2, vi x2), (3, vi x3), (4, vi x4), (5, vi x5)] [] G) : ∀ {G : GS} {x1 : Int} {x2 : Int} {x3 : Int} {x4 : Int} {x5 : Int}, wr x1 = x1 → wr x2 = x2 → wr x3 = x3 → wr x4 = x4 → wr x5 = x5 → f_Model_lays_L110 k13 G x1 x2 x3 x4 x5 = some r → J X true 6 0 0 M_Model_lays (Rv r) NC 0 0 110 [(0, rf X 81), (1, vi x1), (2, vi x2), (3, vi x3), (4, vi x4), (5, vi x5)] [] G := by
  intro G x1 x2 x3 x4 x5 hx1 hx2 hx3 hx4 hx5 h
  unfold f_Model_lays_L110 at h
  refine j_iinc (k := 5) (L' := [(5, vi (wr (x5 + 1))), (0, rf X 81), (1, vi x1), (2, vi x2), (3, vi x3), (4, vi x4)]) (D_Model_lays 62 rfl) rfl rfl (by decide) rfl ?_
  refine j_goto (tgt := 13) (D_Model_lays 63 rfl) rfl ?_
  refine j_loc [1, 2, 3, 4, 5, 0] rfl ?_
  exact hk13 (hx1) (hx2) (hx3) (hx4) (wr_wr _) h
def f_Model_lays_L108 (k13 : GS → Int → Int → Int → Int → Int → Option (GS)) (G : GS) (x1 : Int) (x2 : Int) (x3 : Int) (x5 : Int) (s0 : Int) : Option (GS) :=
  f_Model_lays_L110 k13 G x1 x2 x3 s0 x5
theorem s_Model_lays_L108 {X : XT} {r : GS} {k13 : GS → Int → Int → Int → Int → Int → Option (GS)} (hk13 : ∀ {G : GS} {x1 : Int} {x2 : Int} {x3 : Int} {x4 : Int} {x5 : Int} , wr x1 = x1 → wr x2 = x2 → wr x3 = x3 → wr x4 = x4 → wr x5 = x5 → k13 G x1 x2 x3 x4 x5 = some r → J X true 6 0 0 M_Model_lays (Rv r) NC 0 0 13 [(0, rf X 81), (1, vi x1), (2, vi x2), (3, vi x3), (4, vi x4), (5, vi x5)] [] G) : ∀ {G : GS} {x1 : Int} {x2 : Int} {x3 : Int} {x5 : Int} {s0 : Int}, wr x1 = x1 → wr x2 = x2 → wr x3 = x3 → wr x5 = x5 → wr s0 = s0 → f_Model_lays_L108 k13 G x1 x2 x3 x5 s0 = some r → J X true 6 0 0 M_Model_lays (Rv r) NC 0 0 108 [(0, rf X 81), (1, vi x1), (2, vi x2), (3, vi x3), (5, vi x5)] [vi s0] G := by
  intro G x1 x2 x3 x5 s0 hx1 hx2 hx3 hx5 hs0 h
  unfold f_Model_lays_L108 at h
  refine j_istore (L' := [(4, vi s0), (0, rf X 81), (1, vi x1), (2, vi x2), (3, vi x3), (5, vi x5)]) (D_Model_lays 61 rfl) (hs0) (by decide) rfl ?_
  refine j_loc [1, 2, 3, 4, 0, 5] rfl ?_
  exact s_Model_lays_L110 hk13 (hx1) (hx2) (hx3) (hs0) (hx5) h
def f_Model_lays_L93 (k13 : GS → Int → Int → Int → Int → Int → Option (GS)) (G : GS) (x1 : Int) (x2 : Int) (x4 : Int) (x5 : Int) (x7 : Int) (s0 : Int) : Option (GS) :=
  if x7 ≤ x4 then
    f_Model_lays_L108 k13 G x1 x2 s0 x5 x4
  else
    f_Model_lays_L108 k13 G x1 x2 s0 x5 x7
theorem s_Model_lays_L93 {X : XT} {r : GS} {k13 : GS → Int → Int → Int → Int → Int → Option (GS)} (hk13 : ∀ {G : GS} {x1 : Int} {x2 : Int} {x3 : Int} {x4 : Int} {x5 : Int} , wr x1 = x1 → wr x2 = x2 → wr x3 = x3 → wr x4 = x4 → wr x5 = x5 → k13 G x1 x2 x3 x4 x5 = some r → J X true 6 0 0 M_Model_lays (Rv r) NC 0 0 13 [(0, rf X 81), (1, vi x1), (2, vi x2), (3, vi x3), (4, vi x4), (5, vi x5)] [] G) : ∀ {G : GS} {x1 : Int} {x2 : Int} {x4 : Int} {x5 : Int} {x7 : Int} {s0 : Int}, wr x1 = x1 → wr x2 = x2 → wr x4 = x4 → wr x5 = x5 → wr x7 = x7 → wr s0 = s0 → f_Model_lays_L93 k13 G x1 x2 x4 x5 x7 s0 = some r → J X true 6 0 0 M_Model_lays (Rv r) NC 0 0 93 [(0, rf X 81), (1, vi x1), (2, vi x2), (4, vi x4), (5, vi x5), (7, vi x7)] [vi s0] G := by
  intro G x1 x2 x4 x5 x7 s0 hx1 hx2 hx4 hx5 hx7 hs0 h
  unfold f_Model_lays_L93 at h
  refine j_istoren (L' := [(3, vi s0), (0, rf X 81), (1, vi x1), (2, vi x2), (4, vi x4), (5, vi x5), (7, vi x7)]) (D_Model_lays 54 rfl) rfl (hs0) (by decide) rfl ?_
  refine j_iload (k := 6) (D_Model_lays 55 rfl) rfl ?_
  refine j_iload (k := 4) (D_Model_lays 56 rfl) rfl ?_
  refine j_ic_le (tgt := 106) (D_Model_lays 57 rfl) rfl (hx7) (hx4) (fun c1 => ?_) (fun c1 => ?_)
  · replace h := ite_t h c1
    refine j_iload (k := 4) (D_Model_lays 60 rfl) rfl ?_
    refine j_loc [1, 2, 3, 0, 5] rfl ?_
    exact s_Model_lays_L108 hk13 (hx1) (hx2) (hs0) (hx5) (hx4) h
  · replace h := ite_f h c1
    refine j_iload (k := 6) (D_Model_lays 58 rfl) rfl ?_
    refine j_goto (tgt := 108) (D_Model_lays 59 rfl) rfl ?_
    refine j_loc [1, 2, 3, 0, 5] rfl ?_
    exact s_Model_lays_L108 hk13 (hx1) (hx2) (hs0) (hx5) (hx7) h
def f_Model_lays_L87 (k13 : GS → Int → Int → Int → Int → Int → Option (GS)) (G : GS) (x1 : Int) (x2 : Int) (x4 : Int) (x5 : Int) (x7 : Int) : Option (GS) :=
  f_Model_lays_L93 k13 G x1 x2 x4 x5 x7 x7
theorem s_Model_lays_L87 {X : XT} {r : GS} {k13 : GS → Int → Int → Int → Int → Int → Option (GS)} (hk13 : ∀ {G : GS} {x1 : Int} {x2 : Int} {x3 : Int} {x4 : Int} {x5 : Int} , wr x1 = x1 → wr x2 = x2 → wr x3 = x3 → wr x4 = x4 → wr x5 = x5 → k13 G x1 x2 x3 x4 x5 = some r → J X true 6 0 0 M_Model_lays (Rv r) NC 0 0 13 [(0, rf X 81), (1, vi x1), (2, vi x2), (3, vi x3), (4, vi x4), (5, vi x5)] [] G) : ∀ {G : GS} {x1 : Int} {x2 : Int} {x4 : Int} {x5 : Int} {x7 : Int}, wr x1 = x1 → wr x2 = x2 → wr x4 = x4 → wr x5 = x5 → wr x7 = x7 → f_Model_lays_L87 k13 G x1 x2 x4 x5 x7 = some r → J X true 6 0 0 M_Model_lays (Rv r) NC 0 0 87 [(0, rf X 81), (1, vi x1), (2, vi x2), (4, vi x4), (5, vi x5), (7, vi x7)] [] G := by
  intro G x1 x2 x4 x5 x7 hx1 hx2 hx4 hx5 hx7 h
  unfold f_Model_lays_L87 at h
  refine j_iload (k := 5) (D_Model_lays 51 rfl) rfl ?_
  refine j_goto (tgt := 93) (D_Model_lays 52 rfl) rfl ?_
  refine j_loc [0, 1, 2, 3, 4, 5] rfl ?_
  exact s_Model_lays_L93 hk13 (hx1) (hx2) (hx4) (hx5) (hx7) (hx7) h
def f_Model_lays_L13 : Nat → GS → Int → Int → Int → Int → Int → Option (GS)
  | 0, _, _, _, _, _, _ => none
  | n + 1, G, x1, x2, x3, x4, x5 =>
    if 6 ≤ x5 then
      wG (si G 81 65 (x4 - x3)) fun G1 =>
      some G1
    else
      gd (0 ≤ wr ((6 * x1) + x5) ∧ wr ((6 * x1) + x5) < 72) <|
      if bAnd (bShr x2 x5) 1 = 0 then
        f_Model_lays_L110 (f_Model_lays_L13 n) G x1 x2 x3 x4 x5
      else
        if gi G 93 (wr ((6 * x1) + x5)).toNat = 0 then
          f_Model_lays_L110 (f_Model_lays_L13 n) G x1 x2 x3 x4 x5
        else
          gd (0 ≤ wr ((6 * x1) + x5) ∧ wr ((6 * x1) + x5) < 72) <|
          wG (si G 81 64 ((gi G 81 64) + (gi G 93 (wr ((6 * x1) + x5)).toNat))) fun G2 =>
          if x3 = (-1) then
            f_Model_lays_L87 (f_Model_lays_L13 n) G2 x1 x2 x4 x5 (gi G 94 (wr ((6 * x1) + x5)).toNat)
          else
            if x3 ≤ gi G 94 (wr ((6 * x1) + x5)).toNat then
              f_Model_lays_L93 (f_Model_lays_L13 n) G2 x1 x2 x4 x5 (gi G 94 (wr ((6 * x1) + x5)).toNat) x3
            else
              f_Model_lays_L87 (f_Model_lays_L13 n) G2 x1 x2 x4 x5 (gi G 94 (wr ((6 * x1) + x5)).toNat)
theorem s_Model_lays_L13 {X : XT} {r : GS} : ∀ (n : Nat) {G : GS} {x1 : Int} {x2 : Int} {x3 : Int} {x4 : Int} {x5 : Int}, wr x1 = x1 → wr x2 = x2 → wr x3 = x3 → wr x4 = x4 → wr x5 = x5 → f_Model_lays_L13 n G x1 x2 x3 x4 x5 = some r → J X true 6 0 0 M_Model_lays (Rv r) NC 0 0 13 [(0, rf X 81), (1, vi x1), (2, vi x2), (3, vi x3), (4, vi x4), (5, vi x5)] [] G := by
  intro n
  induction n with
  | zero =>
    intro G x1 x2 x3 x4 x5 hx1 hx2 hx3 hx4 hx5 h
    exact none_some h
  | succ n ih =>
    intro G x1 x2 x3 x4 x5 hx1 hx2 hx3 hx4 hx5 h
    rw [f_Model_lays_L13] at h
    refine j_iload (k := 5) (D_Model_lays 9 rfl) rfl ?_
    refine j_bipush (v := 6) (D_Model_lays 10 rfl) rfl ?_
    refine j_ic_ge (tgt := 116) (D_Model_lays 11 rfl) rfl (hx5) (wr_lit rfl) (fun c1 => ?_) (fun c1 => ?_)
    · replace h := ite_t h c1
      refine j_aloadn (k := 0) (D_Model_lays 64 rfl) rfl rfl ?_
      refine j_iload (k := 4) (D_Model_lays 65 rfl) rfl ?_
      refine j_iloadn (k := 3) (D_Model_lays 66 rfl) rfl rfl ?_
      refine j_isub (D_Model_lays 67 rfl) ?_
      refine j_putI rfl fa_Model_522 kd_81 lc_81 (by decide) rfl (D_Model_lays 68 rfl) ?_
      refine j_gen (fun G1 e1 => ?_)
      replace h := wG_at h e1
      exact j_vret (D_Model_lays 69 rfl) rfl rfl rfl (leafV h)
    · replace h := ite_f h c1
      refine j_aloadn (k := 0) (D_Model_lays 12 rfl) rfl rfl ?_
      refine j_getR rfl fa_Model_43 kd_81 lc_81 (by decide) rfl fx_81_14 (by decide) (D_Model_lays 13 rfl) ?_
      refine j_bipush (v := 6) (D_Model_lays 14 rfl) rfl ?_
      refine j_iloadn (k := 1) (D_Model_lays 15 rfl) rfl rfl ?_
      refine j_imul (D_Model_lays 16 rfl) ?_
      refine j_iload (k := 5) (D_Model_lays 17 rfl) rfl ?_
      refine j_iadd (D_Model_lays 18 rfl) ?_
      have g1 := gd_c h
      replace h := gd_s h
      refine j_iald (NI := 72) (D_Model_lays 19 rfl) kd_93 lc_93 (rfl) rfl g1.1 g1.2 ?_
      refine j_istore (L' := [(6, vi (gi G 93 (wr ((6 * x1) + x5)).toNat)), (0, rf X 81), (1, vi x1), (2, vi x2), (3, vi x3), (4, vi x4), (5, vi x5)]) (D_Model_lays 20 rfl) (wr_gi _ _ _) (by decide) rfl ?_
      refine j_iloadn (k := 3) (D_Model_lays 21 rfl) rfl rfl ?_
      refine j_iload (k := 6) (D_Model_lays 22 rfl) rfl ?_
      refine j_ishr (D_Model_lays 23 rfl) ?_
      refine j_iconst (v := 1) (D_Model_lays 24 rfl) rfl ?_
      refine j_iand (D_Model_lays 25 rfl) ?_
      refine j_if_eq (tgt := 110) (D_Model_lays 26 rfl) rfl (wr_bAnd _ _) (fun c2 => ?_) (fun c2 => ?_)
      · replace h := ite_t h c2
        refine j_loc [1, 2, 3, 4, 5, 6] rfl ?_
        exact s_Model_lays_L110 ih (hx1) (hx2) (hx3) (hx4) (hx5) h
      · replace h := ite_f h c2
        refine j_iload (k := 0) (D_Model_lays 27 rfl) rfl ?_
        refine j_if_ne (tgt := 51) (D_Model_lays 28 rfl) rfl (wr_gi _ _ _) (fun c3 => ?_) (fun c3 => ?_)
        · replace h := ite_f h c3
          refine j_aloadn (k := 1) (D_Model_lays 30 rfl) rfl rfl ?_
          refine j_getR rfl fa_Model_46 kd_81 lc_81 (by decide) rfl fx_81_15 (by decide) (D_Model_lays 31 rfl) ?_
          refine j_bipush (v := 6) (D_Model_lays 32 rfl) rfl ?_
          refine j_iloadn (k := 2) (D_Model_lays 33 rfl) rfl rfl ?_
          refine j_imul (D_Model_lays 34 rfl) ?_
          refine j_iload (k := 6) (D_Model_lays 35 rfl) rfl ?_
          refine j_iadd (D_Model_lays 36 rfl) ?_
          have g2 := gd_c h
          replace h := gd_s h
          refine j_iald (NI := 72) (D_Model_lays 37 rfl) kd_94 lc_94 (rfl) rfl g2.1 g2.2 ?_
          refine j_istore (L' := [(7, vi (gi G 94 (wr ((6 * x1) + x5)).toNat)), (6, vi (gi G 93 (wr ((6 * x1) + x5)).toNat)), (0, rf X 81), (1, vi x1), (2, vi x2), (3, vi x3), (4, vi x4), (5, vi x5)]) (D_Model_lays 38 rfl) (wr_gi _ _ _) (by decide) rfl ?_
          refine j_aloadn (k := 2) (D_Model_lays 39 rfl) rfl rfl ?_
          refine j_dup (D_Model_lays 40 rfl) rfl ?_
          refine j_getI rfl fa_Model_519 kd_81 lc_81 (by decide) rfl (D_Model_lays 41 rfl) ?_
          refine j_iload (k := 1) (D_Model_lays 42 rfl) rfl ?_
          refine j_iadd (D_Model_lays 43 rfl) ?_
          refine j_putI rfl fa_Model_519 kd_81 lc_81 (by decide) rfl (D_Model_lays 44 rfl) ?_
          refine j_gen (fun G2 e2 => ?_)
          replace h := wG_at h e2
          refine j_iloadn (k := 5) (D_Model_lays 45 rfl) rfl rfl ?_
          refine j_iconst (v := (-1)) (D_Model_lays 46 rfl) rfl ?_
          refine j_ic_eq (tgt := 87) (D_Model_lays 47 rfl) rfl (hx3) (wr_lit rfl) (fun c4 => ?_) (fun c4 => ?_)
          · replace h := ite_t h c4
            refine j_loc [2, 3, 4, 6, 7, 0] rfl ?_
            exact s_Model_lays_L87 ih (hx1) (hx2) (hx4) (hx5) (wr_gi _ _ _) h
          · replace h := ite_f h c4
            refine j_iload (k := 0) (D_Model_lays 48 rfl) rfl ?_
            refine j_iloadn (k := 5) (D_Model_lays 49 rfl) rfl rfl ?_
            refine j_ic_ge (tgt := 92) (D_Model_lays 50 rfl) rfl (wr_gi _ _ _) (hx3) (fun c5 => ?_) (fun c5 => ?_)
            · replace h := ite_t h c5
              refine j_iloadn (k := 5) (D_Model_lays 53 rfl) rfl rfl ?_
              refine j_loc [2, 3, 4, 6, 7, 0] rfl ?_
              exact s_Model_lays_L93 ih (hx1) (hx2) (hx4) (hx5) (wr_gi _ _ _) (hx3) h
            · replace h := ite_f h c5
              refine j_loc [2, 3, 4, 6, 7, 0] rfl ?_
              exact s_Model_lays_L87 ih (hx1) (hx2) (hx4) (hx5) (wr_gi _ _ _) h
        · replace h := ite_t h c3
          refine j_goto (tgt := 110) (D_Model_lays 29 rfl) rfl ?_
          refine j_loc [1, 2, 3, 4, 5, 6] rfl ?_
          exact s_Model_lays_L110 ih (hx1) (hx2) (hx3) (hx4) (hx5) h
def f_Model_lays (G : GS) (a1 : Int) (a2 : Int) : Option (GS) :=
  wG (si G 81 64 0) fun G1 =>
  f_Model_lays_L13 FU G1 a1 a2 (-1) (-1) 0
theorem c_Model_lays {X : XT} {G : GS} {a1 : Int} {a2 : Int} {r : GS} (ha1 : wr a1 = a1) (ha2 : wr a2 = a2) (h : f_Model_lays G a1 a2 = some r) : Call X true 6 0 0 M_Model_lays [rf X 81, vi a1, vi a2] NC G (Rv r) := by
  refine Call_of_J cw_Model_lays (by decide +kernel) (Nat.le_of_ble_eq_true rfl) ?_
  unfold f_Model_lays at h
  show J X true 6 0 0 M_Model_lays (Rv r) NC 0 0 0 [(0, rf X 81), (1, vi a1), (2, vi a2)] [] G
  refine j_aloadn (k := 0) (D_Model_lays 0 rfl) rfl rfl ?_
  refine j_iconst (v := 0) (D_Model_lays 1 rfl) rfl ?_
  refine j_putI rfl fa_Model_519 kd_81 lc_81 (by decide) rfl (D_Model_lays 2 rfl) ?_
  refine j_gen (fun G1 e1 => ?_)
  replace h := wG_at h e1
  refine j_iconst (v := (-1)) (D_Model_lays 3 rfl) rfl ?_
  refine j_istoren (L' := [(3, vi (-1)), (0, rf X 81), (1, vi a1), (2, vi a2)]) (D_Model_lays 4 rfl) rfl (wr_lit rfl) (by decide) rfl ?_
  refine j_iconst (v := (-1)) (D_Model_lays 5 rfl) rfl ?_
  refine j_istore (L' := [(4, vi (-1)), (3, vi (-1)), (0, rf X 81), (1, vi a1), (2, vi a2)]) (D_Model_lays 6 rfl) (wr_lit rfl) (by decide) rfl ?_
  refine j_iconst (v := 0) (D_Model_lays 7 rfl) rfl ?_
  refine j_istore (L' := [(5, vi 0), (4, vi (-1)), (3, vi (-1)), (0, rf X 81), (1, vi a1), (2, vi a2)]) (D_Model_lays 8 rfl) (wr_lit rfl) (by decide) rfl ?_
  refine j_loc [3, 4, 5, 2, 1, 0] rfl ?_
  exact s_Model_lays_L13 FU (ha1) (ha2) (wr_lit rfl) (wr_lit rfl) (wr_lit rfl) h
abbrev M_Model_dower : MI := (⟨"InquestHallModel", "dower", "(III)I"⟩, prog_14_method_79_code, 9, (some .int))
theorem cw_Model_dower : Cond.code M_Model_dower.1 M_Model_dower.2.1 M_Model_dower.2.2.1 M_Model_dower.2.2.2 ∈ TS := mTS (List.mem_of_getElem? (i := 1904) (by decide +kernel)) (by decide +kernel)
theorem lk_Model_525 : Cond.methodLink "InquestHallModel" 525 M_Model_dowerDue.1 ∈ TS := mTS (List.mem_of_getElem? (i := 1905) (by decide +kernel)) (by decide +kernel)
theorem mok_Model_dowerDue : MOK M_Model_dowerDue 2 := ⟨mTS (List.mem_of_getElem? (i := 1907) (by decide +kernel)) (by decide +kernel), mTS (List.mem_of_getElem? (i := 110) (by decide +kernel)) (by decide +kernel), mTS (List.mem_of_getElem? (i := 139) (by decide +kernel)) (by decide +kernel), cw_Model_dowerDue, ⟨by decide, by decide, by decide +kernel⟩, by decide +kernel, by decide⟩
theorem lk_Model_528 : Cond.methodLink "InquestHallModel" 528 M_Model_lays.1 ∈ TS := mTS (List.mem_of_getElem? (i := 1909) (by decide +kernel)) (by decide +kernel)
theorem mok_Model_lays : MOK M_Model_lays 2 := ⟨mTS (List.mem_of_getElem? (i := 1911) (by decide +kernel)) (by decide +kernel), mTS (List.mem_of_getElem? (i := 111) (by decide +kernel)) (by decide +kernel), mTS (List.mem_of_getElem? (i := 139) (by decide +kernel)) (by decide +kernel), cw_Model_lays, ⟨by decide, by decide, by decide +kernel⟩, by decide +kernel, by decide⟩
def tb_Model_dower : List (Nat × Instr × Nat) := [(0, .aload_n 0, 1), (1, .iload_n 1, 1), (2, .iload_n 2, 1), (3, .invokevirtual 475, 3), (6, .ifCond .eq 50, 3), (9, .iload_n 3, 1), (10, .iconst 0, 1), (11, .iconst 3, 1), (12, .invokestatic 188, 3), (15, .ifCond .eq 41, 3), (18, .aload_n 0, 1), (19, .getfield 7, 3), (22, .iload_n 1, 1), (23, .iaload, 1), (24, .ifCond .ne 32, 3), (27, .aload_n 0, 1), (28, .getfield 28, 3), (31, .iload_n 1, 1), (32, .iaload, 1), (33, .iconst (-1), 1), (34, .if_icmp .eq 22, 3), (37, .aload_n 0, 1), (38, .aload_n 0, 1), (39, .getfield 28, 3), (42, .iload_n 1, 1), (43, .iaload, 1), (44, .aload_n 0, 1), (45, .getfield 25, 3), (48, .iload_n 1, 1), (49, .iaload, 1), (50, .invokevirtual 423, 3), (53, .ifCond .ne 5, 3), (56, .iconst (-1), 1), (57, .ireturn, 1), (58, .aload_n 0, 1), (59, .iload_n 1, 1), (60, .iload_n 2, 1), (61, .invokevirtual 525, 3), (64, .istore 4, 2), (66, .iconst (-1), 1), (67, .istore 5, 2), (69, .iconst 0, 1), (70, .istore 6, 2), (72, .iconst 0, 1), (73, .istore 7, 2), (75, .iconst 0, 1), (76, .istore 8, 2), (78, .iload 8, 2), (80, .bipush 64, 2), (82, .if_icmp .ge 77, 3), (85, .aload_n 0, 1), (86, .iload_n 2, 1), (87, .iload 8, 2), (89, .invokevirtual 528, 3), (92, .aload_n 0, 1), (93, .getfield 519, 3), (96, .iload 4, 2), (98, .if_icmp .lt 55, 3), (101, .iload 5, 2), (103, .iconst (-1), 1), (104, .if_icmp .eq 33, 3), (107, .aload_n 0, 1), (108, .getfield 519, 3), (111, .iload 6, 2), (113, .if_icmp .gt 40, 3), (116, .aload_n 0, 1), (117, .getfield 519, 3), (120, .iload 6, 2), (122, .if_icmp .ne 15, 3), (125, .aload_n 0, 1), (126, .getfield 522, 3), (129, .iload 7, 2), (131, .if_icmp .lt 6, 3), (134, .goto 19, 3), (137, .iload 8, 2), (139, .istore 5, 2), (141, .aload_n 0, 1), (142, .getfield 519, 3), (145, .istore 6, 2), (147, .aload_n 0, 1), (148, .getfield 522, 3), (151, .istore 7, 2), (153, .iinc 8 1, 3), (156, .goto (-78), 3), (159, .iload_n 3, 1), (160, .ifCond .ne 8, 3), (163, .iload 4, 2), (165, .goto 25, 3), (168, .iload_n 3, 1), (169, .iconst 1, 1), (170, .if_icmp .ne 8, 3), (173, .iload 5, 2), (175, .goto 15, 3), (178, .iload_n 3, 1), (179, .iconst 2, 1), (180, .if_icmp .ne 8, 3), (183, .iload 6, 2), (185, .goto 5, 3), (188, .iload 7, 2), (190, .ireturn, 1)]
theorem D_Model_dower (i : Nat) {pc len : Nat} {ins : Instr} (hi : tb_Model_dower[i]? = some (pc, ins, len)) : decode M_Model_dower.2.1 pc = .ok (ins, len) := dec_of (by decide +kernel) i hi
def f_Model_dower_L153 (k78 : GS → Int → Int → Int → Int → Int → Int → Int → Option (Int × GS)) (G : GS) (x2 : Int) (x3 : Int) (x4 : Int) (x5 : Int) (x6 : Int) (x7 : Int) (x8 : Int) : Option (Int × GS) :=
  k78 G x2 x3 x4 x5 x6 x7 (wr (x8 + 1))
theorem s_Model_dower_L153 {X : XT} {r : Int × GS} {k78 : GS → Int → Int → Int → Int → Int → Int → Int → Option (Int × GS)} (hk78 : ∀ {G : GS} {x2 : Int} {x3 : Int} {x4 : Int} {x5 : Int} {x6 : Int} {x7 : Int} {x8 : Int} , wr x2 = x2 → wr x3 = x3 → wr x4 = x4 → wr x5 = x5 → wr x6 = x6 → wr x7 = x7 → wr x8 = x8 → k78 G x2 x3 x4 x5 x6 x7 x8 = some r → J X true 9 0 0 M_Model_dower (Ri r.1 r.2) NC 0 0 78 [(0, rf X 81), (2, vi x2), (3, vi x3), (4, vi x4), (5, vi x5), (6, vi x6), (7, vi x7), (8, vi x8)] [] G) : ∀ {G : GS} {x2 : Int} {x3 : Int} {x4 : Int} {x5 : Int} {x6 : Int} {x7 : Int} {x8 : Int}, wr x2 = x2 → wr x3 = x3 → wr x4 = x4 → wr x5 = x5 → wr x6 = x6 → wr x7 = x7 → wr x8 = x8 → f_Model_dower_L153 k78 G x2 x3 x4 x5 x6 x7 x8 = some r → J X true 9 0 0 M_Model_dower (Ri r.1 r.2) NC 0 0 153 [(0, rf X 81), (2, vi x2), (3, vi x3), (4, vi x4), (5, vi x5), (6, vi x6), (7, vi x7), (8, vi x8)] [] G := by
  intro G x2 x3 x4 x5 x6 x7 x8 hx2 hx3 hx4 hx5 hx6 hx7 hx8 h
  unfold f_Model_dower_L153 at h
  refine j_iinc (k := 7) (L' := [(8, vi (wr (x8 + 1))), (0, rf X 81), (2, vi x2), (3, vi x3), (4, vi x4), (5, vi x5), (6, vi x6), (7, vi x7)]) (D_Model_dower 82 rfl) rfl rfl (by decide) rfl ?_
  refine j_goto (tgt := 78) (D_Model_dower 83 rfl) rfl ?_
  refine j_loc [1, 2, 3, 4, 5, 6, 7, 0] rfl ?_
  exact hk78 (hx2) (hx3) (hx4) (hx5) (hx6) (hx7) (wr_wr _) h
def f_Model_dower_L137 (k78 : GS → Int → Int → Int → Int → Int → Int → Int → Option (Int × GS)) (G : GS) (x2 : Int) (x3 : Int) (x4 : Int) (x8 : Int) : Option (Int × GS) :=
  f_Model_dower_L153 k78 G x2 x3 x4 x8 (gi G 81 64) (gi G 81 65) x8
theorem s_Model_dower_L137 {X : XT} {r : Int × GS} {k78 : GS → Int → Int → Int → Int → Int → Int → Int → Option (Int × GS)} (hk78 : ∀ {G : GS} {x2 : Int} {x3 : Int} {x4 : Int} {x5 : Int} {x6 : Int} {x7 : Int} {x8 : Int} , wr x2 = x2 → wr x3 = x3 → wr x4 = x4 → wr x5 = x5 → wr x6 = x6 → wr x7 = x7 → wr x8 = x8 → k78 G x2 x3 x4 x5 x6 x7 x8 = some r → J X true 9 0 0 M_Model_dower (Ri r.1 r.2) NC 0 0 78 [(0, rf X 81), (2, vi x2), (3, vi x3), (4, vi x4), (5, vi x5), (6, vi x6), (7, vi x7), (8, vi x8)] [] G) : ∀ {G : GS} {x2 : Int} {x3 : Int} {x4 : Int} {x8 : Int}, wr x2 = x2 → wr x3 = x3 → wr x4 = x4 → wr x8 = x8 → f_Model_dower_L137 k78 G x2 x3 x4 x8 = some r → J X true 9 0 0 M_Model_dower (Ri r.1 r.2) NC 0 0 137 [(0, rf X 81), (2, vi x2), (3, vi x3), (4, vi x4), (8, vi x8)] [] G := by
  intro G x2 x3 x4 x8 hx2 hx3 hx4 hx8 h
  unfold f_Model_dower_L137 at h
  refine j_iload (k := 4) (D_Model_dower 74 rfl) rfl ?_
  refine j_istore (L' := [(5, vi x8), (0, rf X 81), (2, vi x2), (3, vi x3), (4, vi x4), (8, vi x8)]) (D_Model_dower 75 rfl) (hx8) (by decide) rfl ?_
  refine j_aloadn (k := 1) (D_Model_dower 76 rfl) rfl rfl ?_
  refine j_getI rfl fa_Model_519 kd_81 lc_81 (by decide) rfl (D_Model_dower 77 rfl) ?_
  refine j_istore (L' := [(6, vi (gi G 81 64)), (5, vi x8), (0, rf X 81), (2, vi x2), (3, vi x3), (4, vi x4), (8, vi x8)]) (D_Model_dower 78 rfl) (wr_gi _ _ _) (by decide) rfl ?_
  refine j_aloadn (k := 2) (D_Model_dower 79 rfl) rfl rfl ?_
  refine j_getI rfl fa_Model_522 kd_81 lc_81 (by decide) rfl (D_Model_dower 80 rfl) ?_
  refine j_istore (L' := [(7, vi (gi G 81 65)), (6, vi (gi G 81 64)), (5, vi x8), (0, rf X 81), (2, vi x2), (3, vi x3), (4, vi x4), (8, vi x8)]) (D_Model_dower 81 rfl) (wr_gi _ _ _) (by decide) rfl ?_
  refine j_loc [3, 4, 5, 6, 2, 1, 0, 7] rfl ?_
  exact s_Model_dower_L153 hk78 (hx2) (hx3) (hx4) (hx8) (wr_gi _ _ _) (wr_gi _ _ _) (hx8) h
def f_Model_dower_L78 : Nat → GS → Int → Int → Int → Int → Int → Int → Int → Option (Int × GS)
  | 0, _, _, _, _, _, _, _, _ => none
  | n + 1, G, x2, x3, x4, x5, x6, x7, x8 =>
    if 64 ≤ x8 then
      if x3 = 0 then
        some (x4, G)
      else
        if x3 = 1 then
          some (x5, G)
        else
          if x3 = 2 then
            some (x6, G)
          else
            some (x7, G)
    else
      (f_Model_lays G x2 x8).bind fun q1 =>
      if gi q1 81 64 < x4 then
        f_Model_dower_L153 (f_Model_dower_L78 n) q1 x2 x3 x4 x5 x6 x7 x8
      else
        if x5 = (-1) then
          f_Model_dower_L137 (f_Model_dower_L78 n) q1 x2 x3 x4 x8
        else
          if x6 < gi q1 81 64 then
            f_Model_dower_L153 (f_Model_dower_L78 n) q1 x2 x3 x4 x5 x6 x7 x8
          else
            if gi q1 81 64 = x6 then
              if gi q1 81 65 < x7 then
                f_Model_dower_L137 (f_Model_dower_L78 n) q1 x2 x3 x4 x8
              else
                f_Model_dower_L153 (f_Model_dower_L78 n) q1 x2 x3 x4 x5 x6 x7 x8
            else
              f_Model_dower_L137 (f_Model_dower_L78 n) q1 x2 x3 x4 x8
theorem s_Model_dower_L78 {X : XT} {r : Int × GS} : ∀ (n : Nat) {G : GS} {x2 : Int} {x3 : Int} {x4 : Int} {x5 : Int} {x6 : Int} {x7 : Int} {x8 : Int}, wr x2 = x2 → wr x3 = x3 → wr x4 = x4 → wr x5 = x5 → wr x6 = x6 → wr x7 = x7 → wr x8 = x8 → f_Model_dower_L78 n G x2 x3 x4 x5 x6 x7 x8 = some r → J X true 9 0 0 M_Model_dower (Ri r.1 r.2) NC 0 0 78 [(0, rf X 81), (2, vi x2), (3, vi x3), (4, vi x4), (5, vi x5), (6, vi x6), (7, vi x7), (8, vi x8)] [] G := by
  intro n
  induction n with
  | zero =>
    intro G x2 x3 x4 x5 x6 x7 x8 hx2 hx3 hx4 hx5 hx6 hx7 hx8 h
    exact none_some h
  | succ n ih =>
    intro G x2 x3 x4 x5 x6 x7 x8 hx2 hx3 hx4 hx5 hx6 hx7 hx8 h
    rw [f_Model_dower_L78] at h
    refine j_iload (k := 7) (D_Model_dower 47 rfl) rfl ?_
    refine j_bipush (v := 64) (D_Model_dower 48 rfl) rfl ?_
    refine j_ic_ge (tgt := 159) (D_Model_dower 49 rfl) rfl (hx8) (wr_lit rfl) (fun c1 => ?_) (fun c1 => ?_)
    · replace h := ite_t h c1
      refine j_iloadn (k := 2) (D_Model_dower 84 rfl) rfl rfl ?_
      refine j_if_ne (tgt := 168) (D_Model_dower 85 rfl) rfl (hx3) (fun c2 => ?_) (fun c2 => ?_)
      · replace h := ite_f h c2
        refine j_iloadn (k := 2) (D_Model_dower 88 rfl) rfl rfl ?_
        refine j_iconst (v := 1) (D_Model_dower 89 rfl) rfl ?_
        refine j_ic_ne (tgt := 178) (D_Model_dower 90 rfl) rfl (hx3) (wr_lit rfl) (fun c3 => ?_) (fun c3 => ?_)
        · replace h := ite_f h c3
          refine j_iloadn (k := 2) (D_Model_dower 93 rfl) rfl rfl ?_
          refine j_iconst (v := 2) (D_Model_dower 94 rfl) rfl ?_
          refine j_ic_ne (tgt := 188) (D_Model_dower 95 rfl) rfl (hx3) (wr_lit rfl) (fun c4 => ?_) (fun c4 => ?_)
          · replace h := ite_f h c4
            refine j_iload (k := 6) (D_Model_dower 98 rfl) rfl ?_
            exact j_iret (D_Model_dower 99 rfl) rfl (hx7) rfl rfl (leafI h (wr_n (hx7)))
          · replace h := ite_t h c4
            refine j_iload (k := 5) (D_Model_dower 96 rfl) rfl ?_
            refine j_goto (tgt := 190) (D_Model_dower 97 rfl) rfl ?_
            exact j_iret (D_Model_dower 99 rfl) rfl (hx6) rfl rfl (leafI h (wr_n (hx6)))
        · replace h := ite_t h c3
          refine j_iload (k := 4) (D_Model_dower 91 rfl) rfl ?_
          refine j_goto (tgt := 190) (D_Model_dower 92 rfl) rfl ?_
          exact j_iret (D_Model_dower 99 rfl) rfl (hx5) rfl rfl (leafI h (wr_n (hx5)))
      · replace h := ite_t h c2
        refine j_iload (k := 3) (D_Model_dower 86 rfl) rfl ?_
        refine j_goto (tgt := 190) (D_Model_dower 87 rfl) rfl ?_
        exact j_iret (D_Model_dower 99 rfl) rfl (hx4) rfl rfl (leafI h (wr_n (hx4)))
    · replace h := ite_f h c1
      refine j_aloadn (k := 0) (D_Model_dower 50 rfl) rfl rfl ?_
      refine j_iloadn (k := 1) (D_Model_dower 51 rfl) rfl rfl ?_
      refine j_iload (k := 7) (D_Model_dower 52 rfl) rfl ?_
      obtain ⟨q1, e1, h⟩ := Option.bind_eq_some_iff.mp h
      refine j_cVv (c_Model_lays (hx2) (hx8) e1) rfl lk_Model_528 mok_Model_lays kd_81 lc_81 rfl (by decide) rfl rfl (Nat.le_of_ble_eq_true rfl) (D_Model_dower 53 rfl) ?_
      refine j_aloadn (k := 0) (D_Model_dower 54 rfl) rfl rfl ?_
      refine j_getI rfl fa_Model_519 kd_81 lc_81 (by decide) rfl (D_Model_dower 55 rfl) ?_
      refine j_iload (k := 3) (D_Model_dower 56 rfl) rfl ?_
      refine j_ic_lt (tgt := 153) (D_Model_dower 57 rfl) rfl (wr_gi _ _ _) (hx4) (fun c5 => ?_) (fun c5 => ?_)
      · replace h := ite_t h c5
        refine j_loc [0, 1, 2, 3, 4, 5, 6, 7] rfl ?_
        exact s_Model_dower_L153 ih (hx2) (hx3) (hx4) (hx5) (hx6) (hx7) (hx8) h
      · replace h := ite_f h c5
        refine j_iload (k := 4) (D_Model_dower 58 rfl) rfl ?_
        refine j_iconst (v := (-1)) (D_Model_dower 59 rfl) rfl ?_
        refine j_ic_eq (tgt := 137) (D_Model_dower 60 rfl) rfl (hx5) (wr_lit rfl) (fun c6 => ?_) (fun c6 => ?_)
        · replace h := ite_t h c6
          refine j_loc [0, 1, 2, 3, 7] rfl ?_
          exact s_Model_dower_L137 ih (hx2) (hx3) (hx4) (hx8) h
        · replace h := ite_f h c6
          refine j_aloadn (k := 0) (D_Model_dower 61 rfl) rfl rfl ?_
          refine j_getI rfl fa_Model_519 kd_81 lc_81 (by decide) rfl (D_Model_dower 62 rfl) ?_
          refine j_iload (k := 5) (D_Model_dower 63 rfl) rfl ?_
          refine j_ic_gt (tgt := 153) (D_Model_dower 64 rfl) rfl (wr_gi _ _ _) (hx6) (fun c7 => ?_) (fun c7 => ?_)
          · replace h := ite_t h c7
            refine j_loc [0, 1, 2, 3, 4, 5, 6, 7] rfl ?_
            exact s_Model_dower_L153 ih (hx2) (hx3) (hx4) (hx5) (hx6) (hx7) (hx8) h
          · replace h := ite_f h c7
            refine j_aloadn (k := 0) (D_Model_dower 65 rfl) rfl rfl ?_
            refine j_getI rfl fa_Model_519 kd_81 lc_81 (by decide) rfl (D_Model_dower 66 rfl) ?_
            refine j_iload (k := 5) (D_Model_dower 67 rfl) rfl ?_
            refine j_ic_ne (tgt := 137) (D_Model_dower 68 rfl) rfl (wr_gi _ _ _) (hx6) (fun c8 => ?_) (fun c8 => ?_)
            · replace h := ite_f h c8
              refine j_loc [0, 1, 2, 3, 7] rfl ?_
              exact s_Model_dower_L137 ih (hx2) (hx3) (hx4) (hx8) h
            · replace h := ite_t h c8
              refine j_aloadn (k := 0) (D_Model_dower 69 rfl) rfl rfl ?_
              refine j_getI rfl fa_Model_522 kd_81 lc_81 (by decide) rfl (D_Model_dower 70 rfl) ?_
              refine j_iload (k := 6) (D_Model_dower 71 rfl) rfl ?_
              refine j_ic_lt (tgt := 137) (D_Model_dower 72 rfl) rfl (wr_gi _ _ _) (hx7) (fun c9 => ?_) (fun c9 => ?_)
              · replace h := ite_t h c9
                refine j_loc [0, 1, 2, 3, 7] rfl ?_
                exact s_Model_dower_L137 ih (hx2) (hx3) (hx4) (hx8) h
              · replace h := ite_f h c9
                refine j_goto (tgt := 153) (D_Model_dower 73 rfl) rfl ?_
                refine j_loc [0, 1, 2, 3, 4, 5, 6, 7] rfl ?_
                exact s_Model_dower_L153 ih (hx2) (hx3) (hx4) (hx5) (hx6) (hx7) (hx8) h
def f_Model_dower (G : GS) (a1 : Int) (a2 : Int) (a3 : Int) : Option (Int × GS) :=
  (f_Model_canAsk G a1 a2).bind fun q1 =>
  if q1 = 0 then
    some ((-1), G)
  else
    (f_Model_isIn G a3 0 3).bind fun q2 =>
    if q2 = 0 then
      some ((-1), G)
    else
      gd (0 ≤ a1 ∧ a1 < 32) <|
      if gi G 82 a1.toNat = 0 then
        gd (0 ≤ a1 ∧ a1 < 32) <|
        if gi G 88 a1.toNat = (-1) then
          some ((-1), G)
        else
          gd (0 ≤ a1 ∧ a1 < 32) <|
          gd (0 ≤ a1 ∧ a1 < 32) <|
          (f_Model_isAlive G (gi G 88 a1.toNat) (gi G 87 a1.toNat)).bind fun q3 =>
          if q3 = 0 then
            some ((-1), G)
          else
            (f_Model_dowerDue G a1 a2).bind fun q4 =>
            f_Model_dower_L78 FU G a2 a3 q4 (-1) 0 0 0
      else
        some ((-1), G)
theorem c_Model_dower {X : XT} {G : GS} {a1 : Int} {a2 : Int} {a3 : Int} {r : Int × GS} (ha1 : wr a1 = a1) (ha2 : wr a2 = a2) (ha3 : wr a3 = a3) (h : f_Model_dower G a1 a2 a3 = some r) : Call X true 9 0 0 M_Model_dower [rf X 81, vi a1, vi a2, vi a3] NC G (Ri r.1 r.2) := by
  refine Call_of_J cw_Model_dower (by decide +kernel) (Nat.le_of_ble_eq_true rfl) ?_
  unfold f_Model_dower at h
  show J X true 9 0 0 M_Model_dower (Ri r.1 r.2) NC 0 0 0 [(0, rf X 81), (1, vi a1), (2, vi a2), (3, vi a3)] [] G
  refine j_aloadn (k := 0) (D_Model_dower 0 rfl) rfl rfl ?_
  refine j_iloadn (k := 1) (D_Model_dower 1 rfl) rfl rfl ?_
  refine j_iloadn (k := 2) (D_Model_dower 2 rfl) rfl rfl ?_
  obtain ⟨q1, e1, h⟩ := Option.bind_eq_some_iff.mp h
  refine j_cVz (c_Model_canAsk (ha1) (ha2) e1) rfl lk_Model_475 mok_Model_canAsk kd_81 lc_81 rfl (by decide) rfl rfl (Nat.le_of_ble_eq_true rfl) (D_Model_dower 3 rfl) (fun w1 bw1 => ?_)
  refine j_if_eq (tgt := 56) (D_Model_dower 4 rfl) rfl (w1) (fun c1 => ?_) (fun c1 => ?_)
  · replace h := ite_t h c1
    refine j_iconst (v := (-1)) (D_Model_dower 32 rfl) rfl ?_
    exact j_iret (D_Model_dower 33 rfl) rfl (wr_lit rfl) rfl rfl (leafI h (wr_n (wr_lit rfl)))
  · replace h := ite_f h c1
    refine j_iloadn (k := 3) (D_Model_dower 5 rfl) rfl rfl ?_
    refine j_iconst (v := 0) (D_Model_dower 6 rfl) rfl ?_
    refine j_iconst (v := 3) (D_Model_dower 7 rfl) rfl ?_
    obtain ⟨q2, e2, h⟩ := Option.bind_eq_some_iff.mp h
    refine j_cSz (c_Model_isIn (ha3) (wr_lit rfl) (wr_lit rfl) e2) rfl lk_Model_188 sok_Model_isIn (by decide) rfl rfl (Nat.le_of_ble_eq_true rfl) (D_Model_dower 8 rfl) (fun w2 bw2 => ?_)
    refine j_if_eq (tgt := 56) (D_Model_dower 9 rfl) rfl (w2) (fun c2 => ?_) (fun c2 => ?_)
    · replace h := ite_t h c2
      refine j_iconst (v := (-1)) (D_Model_dower 32 rfl) rfl ?_
      exact j_iret (D_Model_dower 33 rfl) rfl (wr_lit rfl) rfl rfl (leafI h (wr_n (wr_lit rfl)))
    · replace h := ite_f h c2
      refine j_aloadn (k := 0) (D_Model_dower 10 rfl) rfl rfl ?_
      refine j_getR rfl fa_Model_7 kd_81 lc_81 (by decide) rfl fx_81_2 (by decide) (D_Model_dower 11 rfl) ?_
      refine j_iloadn (k := 1) (D_Model_dower 12 rfl) rfl rfl ?_
      have g1 := gd_c h
      replace h := gd_s h
      refine j_iald (NI := 32) (D_Model_dower 13 rfl) kd_82 lc_82 (ha1) rfl g1.1 g1.2 ?_
      refine j_if_ne (tgt := 56) (D_Model_dower 14 rfl) rfl (wr_gi _ _ _) (fun c3 => ?_) (fun c3 => ?_)
      · replace h := ite_f h c3
        refine j_iconst (v := (-1)) (D_Model_dower 32 rfl) rfl ?_
        exact j_iret (D_Model_dower 33 rfl) rfl (wr_lit rfl) rfl rfl (leafI h (wr_n (wr_lit rfl)))
      · replace h := ite_t h c3
        refine j_aloadn (k := 0) (D_Model_dower 15 rfl) rfl rfl ?_
        refine j_getR rfl fa_Model_28 kd_81 lc_81 (by decide) rfl fx_81_8 (by decide) (D_Model_dower 16 rfl) ?_
        refine j_iloadn (k := 1) (D_Model_dower 17 rfl) rfl rfl ?_
        have g2 := gd_c h
        replace h := gd_s h
        refine j_iald (NI := 32) (D_Model_dower 18 rfl) kd_88 lc_88 (ha1) rfl g2.1 g2.2 ?_
        refine j_iconst (v := (-1)) (D_Model_dower 19 rfl) rfl ?_
        refine j_ic_eq (tgt := 56) (D_Model_dower 20 rfl) rfl (wr_gi _ _ _) (wr_lit rfl) (fun c4 => ?_) (fun c4 => ?_)
        · replace h := ite_t h c4
          refine j_iconst (v := (-1)) (D_Model_dower 32 rfl) rfl ?_
          exact j_iret (D_Model_dower 33 rfl) rfl (wr_lit rfl) rfl rfl (leafI h (wr_n (wr_lit rfl)))
        · replace h := ite_f h c4
          refine j_aloadn (k := 0) (D_Model_dower 21 rfl) rfl rfl ?_
          refine j_aloadn (k := 0) (D_Model_dower 22 rfl) rfl rfl ?_
          refine j_getR rfl fa_Model_28 kd_81 lc_81 (by decide) rfl fx_81_8 (by decide) (D_Model_dower 23 rfl) ?_
          refine j_iloadn (k := 1) (D_Model_dower 24 rfl) rfl rfl ?_
          have g3 := gd_c h
          replace h := gd_s h
          refine j_iald (NI := 32) (D_Model_dower 25 rfl) kd_88 lc_88 (ha1) rfl g3.1 g3.2 ?_
          refine j_aloadn (k := 0) (D_Model_dower 26 rfl) rfl rfl ?_
          refine j_getR rfl fa_Model_25 kd_81 lc_81 (by decide) rfl fx_81_7 (by decide) (D_Model_dower 27 rfl) ?_
          refine j_iloadn (k := 1) (D_Model_dower 28 rfl) rfl rfl ?_
          have g4 := gd_c h
          replace h := gd_s h
          refine j_iald (NI := 32) (D_Model_dower 29 rfl) kd_87 lc_87 (ha1) rfl g4.1 g4.2 ?_
          obtain ⟨q3, e3, h⟩ := Option.bind_eq_some_iff.mp h
          refine j_cVz (c_Model_isAlive (wr_gi _ _ _) (wr_gi _ _ _) e3) rfl lk_Model_423 mok_Model_isAlive kd_81 lc_81 rfl (by decide) rfl rfl (Nat.le_of_ble_eq_true rfl) (D_Model_dower 30 rfl) (fun w3 bw3 => ?_)
          refine j_if_ne (tgt := 58) (D_Model_dower 31 rfl) rfl (w3) (fun c5 => ?_) (fun c5 => ?_)
          · replace h := ite_f h c5
            refine j_aloadn (k := 0) (D_Model_dower 34 rfl) rfl rfl ?_
            refine j_iloadn (k := 1) (D_Model_dower 35 rfl) rfl rfl ?_
            refine j_iloadn (k := 2) (D_Model_dower 36 rfl) rfl rfl ?_
            obtain ⟨q4, e4, h⟩ := Option.bind_eq_some_iff.mp h
            refine j_cVi (c_Model_dowerDue (ha1) (ha2) e4) rfl lk_Model_525 mok_Model_dowerDue kd_81 lc_81 rfl (by decide) rfl rfl (Nat.le_of_ble_eq_true rfl) (D_Model_dower 37 rfl) (fun w4 => ?_)
            refine j_istore (L' := [(4, vi q4), (0, rf X 81), (1, vi a1), (2, vi a2), (3, vi a3)]) (D_Model_dower 38 rfl) (w4) (by decide) rfl ?_
            refine j_iconst (v := (-1)) (D_Model_dower 39 rfl) rfl ?_
            refine j_istore (L' := [(5, vi (-1)), (4, vi q4), (0, rf X 81), (1, vi a1), (2, vi a2), (3, vi a3)]) (D_Model_dower 40 rfl) (wr_lit rfl) (by decide) rfl ?_
            refine j_iconst (v := 0) (D_Model_dower 41 rfl) rfl ?_
            refine j_istore (L' := [(6, vi 0), (5, vi (-1)), (4, vi q4), (0, rf X 81), (1, vi a1), (2, vi a2), (3, vi a3)]) (D_Model_dower 42 rfl) (wr_lit rfl) (by decide) rfl ?_
            refine j_iconst (v := 0) (D_Model_dower 43 rfl) rfl ?_
            refine j_istore (L' := [(7, vi 0), (6, vi 0), (5, vi (-1)), (4, vi q4), (0, rf X 81), (1, vi a1), (2, vi a2), (3, vi a3)]) (D_Model_dower 44 rfl) (wr_lit rfl) (by decide) rfl ?_
            refine j_iconst (v := 0) (D_Model_dower 45 rfl) rfl ?_
            refine j_istore (L' := [(8, vi 0), (7, vi 0), (6, vi 0), (5, vi (-1)), (4, vi q4), (0, rf X 81), (1, vi a1), (2, vi a2), (3, vi a3)]) (D_Model_dower 46 rfl) (wr_lit rfl) (by decide) rfl ?_
            refine j_loc [5, 7, 8, 4, 3, 2, 1, 0] rfl ?_
            exact s_Model_dower_L78 FU (ha2) (ha3) (w4) (wr_lit rfl) (wr_lit rfl) (wr_lit rfl) (wr_lit rfl) h
          · replace h := ite_t h c5
            refine j_iconst (v := (-1)) (D_Model_dower 32 rfl) rfl ?_
            exact j_iret (D_Model_dower 33 rfl) rfl (wr_lit rfl) rfl rfl (leafI h (wr_n (wr_lit rfl)))
abbrev M_Seizings_has : MI := (⟨"InquestHall$Seizings", "has", "(I)Z"⟩, prog_11_method_3_code, 2, (some .boolean))
theorem cw_Seizings_has : Cond.code M_Seizings_has.1 M_Seizings_has.2.1 M_Seizings_has.2.2.1 M_Seizings_has.2.2.2 ∈ TS := mTS (List.mem_of_getElem? (i := 1124) (by decide +kernel)) (by decide +kernel)
def tb_Seizings_has : List (Nat × Instr × Nat) := [(0, .iload_n 1, 1), (1, .ifCond .lt 15, 3), (4, .iload_n 1, 1), (5, .aload_n 0, 1), (6, .getfield 30, 3), (9, .if_icmp .ge 7, 3), (12, .iconst 1, 1), (13, .goto 4, 3), (16, .iconst 0, 1), (17, .ireturn, 1)]
theorem D_Seizings_has (i : Nat) {pc len : Nat} {ins : Instr} (hi : tb_Seizings_has[i]? = some (pc, ins, len)) : decode M_Seizings_has.2.1 pc = .ok (ins, len) := dec_of (by decide +kernel) i hi
def f_Seizings_has (G : GS) (a1 : Int) : Option (Int) :=
  if a1 < 0 then
    some 0
  else
    if gi G 38 6 ≤ a1 then
      some 0
    else
      some 1
theorem c_Seizings_has {X : XT} {G : GS} {a1 : Int} {r : Int} (ha1 : wr a1 = a1) (h : f_Seizings_has G a1 = some r) : Call X true 6 0 0 M_Seizings_has [rf X 38, vi a1] NC G (Rz r G) := by
  refine Call_of_J cw_Seizings_has (by decide +kernel) (Nat.le_of_ble_eq_true rfl) ?_
  unfold f_Seizings_has at h
  show J X true 6 0 0 M_Seizings_has (Rz r G) NC 0 0 0 [(0, rf X 38), (1, vi a1)] [] G
  refine j_iloadn (k := 1) (D_Seizings_has 0 rfl) rfl rfl ?_
  refine j_if_lt (tgt := 16) (D_Seizings_has 1 rfl) rfl (ha1) (fun c1 => ?_) (fun c1 => ?_)
  · replace h := ite_t h c1
    refine j_iconst (v := 0) (D_Seizings_has 8 rfl) rfl ?_
    exact j_zret (D_Seizings_has 9 rfl) rfl (wr_lit rfl) (nz_01 (by decide)) rfl rfl (leafZo h (wr_n (wr_lit rfl)) (by decide))
  · replace h := ite_f h c1
    refine j_iloadn (k := 1) (D_Seizings_has 2 rfl) rfl rfl ?_
    refine j_aloadn (k := 0) (D_Seizings_has 3 rfl) rfl rfl ?_
    refine j_getI rfl fa_Seizings_30 kd_38 lc_38 (by decide) rfl (D_Seizings_has 4 rfl) ?_
    refine j_ic_ge (tgt := 16) (D_Seizings_has 5 rfl) rfl (ha1) (wr_gi _ _ _) (fun c2 => ?_) (fun c2 => ?_)
    · replace h := ite_t h c2
      refine j_iconst (v := 0) (D_Seizings_has 8 rfl) rfl ?_
      exact j_zret (D_Seizings_has 9 rfl) rfl (wr_lit rfl) (nz_01 (by decide)) rfl rfl (leafZo h (wr_n (wr_lit rfl)) (by decide))
    · replace h := ite_f h c2
      refine j_iconst (v := 1) (D_Seizings_has 6 rfl) rfl ?_
      refine j_goto (tgt := 17) (D_Seizings_has 7 rfl) rfl ?_
      exact j_zret (D_Seizings_has 9 rfl) rfl (wr_lit rfl) (nz_01 (by decide)) rfl rfl (leafZo h (wr_n (wr_lit rfl)) (by decide))
abbrev M_Seizings_stands : MI := (⟨"InquestHall$Seizings", "stands", "(I)Z"⟩, prog_11_method_4_code, 2, (some .boolean))
theorem cw_Seizings_stands : Cond.code M_Seizings_stands.1 M_Seizings_stands.2.1 M_Seizings_stands.2.2.1 M_Seizings_stands.2.2.2 ∈ TS := mTS (List.mem_of_getElem? (i := 1120) (by decide +kernel)) (by decide +kernel)
theorem lk_Seizings_34 : Cond.methodLink "InquestHall$Seizings" 34 M_Seizings_has.1 ∈ TS := mTS (List.mem_of_getElem? (i := 1121) (by decide +kernel)) (by decide +kernel)
theorem mok_Seizings_has : MOK M_Seizings_has 1 := ⟨mTS (List.mem_of_getElem? (i := 1122) (by decide +kernel)) (by decide +kernel), mTS (List.mem_of_getElem? (i := 1123) (by decide +kernel)) (by decide +kernel), mTS (List.mem_of_getElem? (i := 136) (by decide +kernel)) (by decide +kernel), cw_Seizings_has, ⟨by decide, by decide, by decide +kernel⟩, by decide +kernel, by decide⟩
def tb_Seizings_stands : List (Nat × Instr × Nat) := [(0, .aload_n 0, 1), (1, .iload_n 1, 1), (2, .invokevirtual 34, 3), (5, .ifCond .eq 17, 3), (8, .aload_n 0, 1), (9, .getfield 27, 3), (12, .iload_n 1, 1), (13, .iaload, 1), (14, .iconst (-1), 1), (15, .if_icmp .ne 7, 3), (18, .iconst 1, 1), (19, .goto 4, 3), (22, .iconst 0, 1), (23, .ireturn, 1)]
theorem D_Seizings_stands (i : Nat) {pc len : Nat} {ins : Instr} (hi : tb_Seizings_stands[i]? = some (pc, ins, len)) : decode M_Seizings_stands.2.1 pc = .ok (ins, len) := dec_of (by decide +kernel) i hi
def f_Seizings_stands (G : GS) (a1 : Int) : Option (Int) :=
  (f_Seizings_has G a1).bind fun q1 =>
  if q1 = 0 then
    some 0
  else
    gd (0 ≤ a1 ∧ a1 < 100) <|
    if gi G 44 a1.toNat = (-1) then
      some 1
    else
      some 0
theorem c_Seizings_stands {X : XT} {G : GS} {a1 : Int} {r : Int} (ha1 : wr a1 = a1) (h : f_Seizings_stands G a1 = some r) : Call X true 7 0 0 M_Seizings_stands [rf X 38, vi a1] NC G (Rz r G) := by
  refine Call_of_J cw_Seizings_stands (by decide +kernel) (Nat.le_of_ble_eq_true rfl) ?_
  unfold f_Seizings_stands at h
  show J X true 7 0 0 M_Seizings_stands (Rz r G) NC 0 0 0 [(0, rf X 38), (1, vi a1)] [] G
  refine j_aloadn (k := 0) (D_Seizings_stands 0 rfl) rfl rfl ?_
  refine j_iloadn (k := 1) (D_Seizings_stands 1 rfl) rfl rfl ?_
  obtain ⟨q1, e1, h⟩ := Option.bind_eq_some_iff.mp h
  refine j_cVz (c_Seizings_has (ha1) e1) rfl lk_Seizings_34 mok_Seizings_has kd_38 lc_38 rfl (by decide) rfl rfl (Nat.le_of_ble_eq_true rfl) (D_Seizings_stands 2 rfl) (fun w1 bw1 => ?_)
  refine j_if_eq (tgt := 22) (D_Seizings_stands 3 rfl) rfl (w1) (fun c1 => ?_) (fun c1 => ?_)
  · replace h := ite_t h c1
    refine j_iconst (v := 0) (D_Seizings_stands 12 rfl) rfl ?_
    exact j_zret (D_Seizings_stands 13 rfl) rfl (wr_lit rfl) (nz_01 (by decide)) rfl rfl (leafZo h (wr_n (wr_lit rfl)) (by decide))
  · replace h := ite_f h c1
    refine j_aloadn (k := 0) (D_Seizings_stands 4 rfl) rfl rfl ?_
    refine j_getR rfl fa_Seizings_27 kd_38 lc_38 (by decide) rfl fx_38_5 (by decide) (D_Seizings_stands 5 rfl) ?_
    refine j_iloadn (k := 1) (D_Seizings_stands 6 rfl) rfl rfl ?_
    have g1 := gd_c h
    replace h := gd_s h
    refine j_iald (NI := 100) (D_Seizings_stands 7 rfl) kd_44 lc_44 (ha1) rfl g1.1 g1.2 ?_
    refine j_iconst (v := (-1)) (D_Seizings_stands 8 rfl) rfl ?_
    refine j_ic_ne (tgt := 22) (D_Seizings_stands 9 rfl) rfl (wr_gi _ _ _) (wr_lit rfl) (fun c2 => ?_) (fun c2 => ?_)
    · replace h := ite_f h c2
      refine j_iconst (v := 0) (D_Seizings_stands 12 rfl) rfl ?_
      exact j_zret (D_Seizings_stands 13 rfl) rfl (wr_lit rfl) (nz_01 (by decide)) rfl rfl (leafZo h (wr_n (wr_lit rfl)) (by decide))
    · replace h := ite_t h c2
      refine j_iconst (v := 1) (D_Seizings_stands 10 rfl) rfl ?_
      refine j_goto (tgt := 23) (D_Seizings_stands 11 rfl) rfl ?_
      exact j_zret (D_Seizings_stands 13 rfl) rfl (wr_lit rfl) (nz_01 (by decide)) rfl rfl (leafZo h (wr_n (wr_lit rfl)) (by decide))
abbrev M_Seizings_add : MI := (⟨"InquestHall$Seizings", "add", "(IIIII)I"⟩, prog_11_method_2_code, 6, (some .int))
theorem cw_Seizings_add : Cond.code M_Seizings_add.1 M_Seizings_add.2.1 M_Seizings_add.2.2.1 M_Seizings_add.2.2.2 ∈ TS := mTS (List.mem_of_getElem? (i := 1128) (by decide +kernel)) (by decide +kernel)
theorem fa_Seizings_24 : FA "InquestHall$Seizings" 24 9 4 true (.array .int) := ⟨_, _, _, _, ok_Seizings, by decide, mTS (List.mem_of_getElem? (i := 488) (by decide +kernel)) (by decide +kernel), rfl, rfl⟩
theorem fx_38_4 {G : GS} (w : WF true NC G) : G.2.2 38 4 = 43 := w.2 rfl (38, 4, 43) (by decide)
theorem kd_43 : kd 43 = (0, 100) := rfl
theorem lc_43 : 43 < NC := by decide
def tb_Seizings_add : List (Nat × Instr × Nat) := [(0, .aload_n 0, 1), (1, .getfield 30, 3), (4, .bipush 100, 2), (6, .if_icmp .lt 5, 3), (9, .iconst (-1), 1), (10, .ireturn, 1), (11, .aload_n 0, 1), (12, .getfield 11, 3), (15, .aload_n 0, 1), (16, .getfield 30, 3), (19, .iload_n 1, 1), (20, .iastore, 1), (21, .aload_n 0, 1), (22, .getfield 15, 3), (25, .aload_n 0, 1), (26, .getfield 30, 3), (29, .iload_n 2, 1), (30, .iastore, 1), (31, .aload_n 0, 1), (32, .getfield 18, 3), (35, .aload_n 0, 1), (36, .getfield 30, 3), (39, .iload_n 3, 1), (40, .iastore, 1), (41, .aload_n 0, 1), (42, .getfield 21, 3), (45, .aload_n 0, 1), (46, .getfield 30, 3), (49, .iload 5, 2), (51, .iastore, 1), (52, .aload_n 0, 1), (53, .getfield 24, 3), (56, .aload_n 0, 1), (57, .getfield 30, 3), (60, .iload 4, 2), (62, .iastore, 1), (63, .aload_n 0, 1), (64, .getfield 27, 3), (67, .aload_n 0, 1), (68, .getfield 30, 3), (71, .iconst (-1), 1), (72, .iastore, 1), (73, .aload_n 0, 1), (74, .dup, 1), (75, .getfield 30, 3), (78, .iconst 1, 1), (79, .iadd, 1), (80, .putfield 30, 3), (83, .aload_n 0, 1), (84, .getfield 30, 3), (87, .iconst 1, 1), (88, .isub, 1), (89, .ireturn, 1)]
theorem D_Seizings_add (i : Nat) {pc len : Nat} {ins : Instr} (hi : tb_Seizings_add[i]? = some (pc, ins, len)) : decode M_Seizings_add.2.1 pc = .ok (ins, len) := dec_of (by decide +kernel) i hi
def f_Seizings_add (G : GS) (a1 : Int) (a2 : Int) (a3 : Int) (a4 : Int) (a5 : Int) : Option (Int × GS) :=
  if gi G 38 6 < 100 then
    gd (0 ≤ gi G 38 6 ∧ gi G 38 6 < 100) <|
    wG (si G 39 (gi G 38 6).toNat a1) fun G1 =>
    gd (0 ≤ gi G1 38 6 ∧ gi G1 38 6 < 100) <|
    wG (si G1 40 (gi G1 38 6).toNat a2) fun G2 =>
    gd (0 ≤ gi G2 38 6 ∧ gi G2 38 6 < 100) <|
    wG (si G2 41 (gi G2 38 6).toNat a3) fun G3 =>
    gd (0 ≤ gi G3 38 6 ∧ gi G3 38 6 < 100) <|
    wG (si G3 42 (gi G3 38 6).toNat a5) fun G4 =>
    gd (0 ≤ gi G4 38 6 ∧ gi G4 38 6 < 100) <|
    wG (si G4 43 (gi G4 38 6).toNat a4) fun G5 =>
    gd (0 ≤ gi G5 38 6 ∧ gi G5 38 6 < 100) <|
    wG (si G5 44 (gi G5 38 6).toNat (-1)) fun G6 =>
    wG (si G6 38 6 ((gi G6 38 6) + 1)) fun G7 =>
    some (wr ((gi G7 38 6) - 1), G7)
  else
    some ((-1), G)
theorem c_Seizings_add {X : XT} {G : GS} {a1 : Int} {a2 : Int} {a3 : Int} {a4 : Int} {a5 : Int} {r : Int × GS} (ha1 : wr a1 = a1) (ha2 : wr a2 = a2) (ha3 : wr a3 = a3) (ha4 : wr a4 = a4) (ha5 : wr a5 = a5) (h : f_Seizings_add G a1 a2 a3 a4 a5 = some r) : Call X true 6 0 0 M_Seizings_add [rf X 38, vi a1, vi a2, vi a3, vi a4, vi a5] NC G (Ri r.1 r.2) := by
  refine Call_of_J cw_Seizings_add (by decide +kernel) (Nat.le_of_ble_eq_true rfl) ?_
  unfold f_Seizings_add at h
  show J X true 6 0 0 M_Seizings_add (Ri r.1 r.2) NC 0 0 0 [(0, rf X 38), (1, vi a1), (2, vi a2), (3, vi a3), (4, vi a4), (5, vi a5)] [] G
  refine j_aloadn (k := 0) (D_Seizings_add 0 rfl) rfl rfl ?_
  refine j_getI rfl fa_Seizings_30 kd_38 lc_38 (by decide) rfl (D_Seizings_add 1 rfl) ?_
  refine j_bipush (v := 100) (D_Seizings_add 2 rfl) rfl ?_
  refine j_ic_lt (tgt := 11) (D_Seizings_add 3 rfl) rfl (wr_gi _ _ _) (wr_lit rfl) (fun c1 => ?_) (fun c1 => ?_)
  · replace h := ite_t h c1
    refine j_aloadn (k := 0) (D_Seizings_add 6 rfl) rfl rfl ?_
    refine j_getR rfl fa_Seizings_11 kd_38 lc_38 (by decide) rfl fx_38_0 (by decide) (D_Seizings_add 7 rfl) ?_
    refine j_aloadn (k := 0) (D_Seizings_add 8 rfl) rfl rfl ?_
    refine j_getI rfl fa_Seizings_30 kd_38 lc_38 (by decide) rfl (D_Seizings_add 9 rfl) ?_
    refine j_iloadn (k := 1) (D_Seizings_add 10 rfl) rfl rfl ?_
    have g1 := gd_c h
    replace h := gd_s h
    refine j_iast (NI := 100) (D_Seizings_add 11 rfl) kd_39 lc_39 (wr_gi _ _ _) rfl g1.1 g1.2 ?_
    refine j_gen (fun G1 e1 => ?_)
    replace h := wG_at h e1
    refine j_aloadn (k := 0) (D_Seizings_add 12 rfl) rfl rfl ?_
    refine j_getR rfl fa_Seizings_15 kd_38 lc_38 (by decide) rfl fx_38_1 (by decide) (D_Seizings_add 13 rfl) ?_
    refine j_aloadn (k := 0) (D_Seizings_add 14 rfl) rfl rfl ?_
    refine j_getI rfl fa_Seizings_30 kd_38 lc_38 (by decide) rfl (D_Seizings_add 15 rfl) ?_
    refine j_iloadn (k := 2) (D_Seizings_add 16 rfl) rfl rfl ?_
    have g2 := gd_c h
    replace h := gd_s h
    refine j_iast (NI := 100) (D_Seizings_add 17 rfl) kd_40 lc_40 (wr_gi _ _ _) rfl g2.1 g2.2 ?_
    refine j_gen (fun G2 e2 => ?_)
    replace h := wG_at h e2
    refine j_aloadn (k := 0) (D_Seizings_add 18 rfl) rfl rfl ?_
    refine j_getR rfl fa_Seizings_18 kd_38 lc_38 (by decide) rfl fx_38_2 (by decide) (D_Seizings_add 19 rfl) ?_
    refine j_aloadn (k := 0) (D_Seizings_add 20 rfl) rfl rfl ?_
    refine j_getI rfl fa_Seizings_30 kd_38 lc_38 (by decide) rfl (D_Seizings_add 21 rfl) ?_
    refine j_iloadn (k := 3) (D_Seizings_add 22 rfl) rfl rfl ?_
    have g3 := gd_c h
    replace h := gd_s h
    refine j_iast (NI := 100) (D_Seizings_add 23 rfl) kd_41 lc_41 (wr_gi _ _ _) rfl g3.1 g3.2 ?_
    refine j_gen (fun G3 e3 => ?_)
    replace h := wG_at h e3
    refine j_aloadn (k := 0) (D_Seizings_add 24 rfl) rfl rfl ?_
    refine j_getR rfl fa_Seizings_21 kd_38 lc_38 (by decide) rfl fx_38_3 (by decide) (D_Seizings_add 25 rfl) ?_
    refine j_aloadn (k := 0) (D_Seizings_add 26 rfl) rfl rfl ?_
    refine j_getI rfl fa_Seizings_30 kd_38 lc_38 (by decide) rfl (D_Seizings_add 27 rfl) ?_
    refine j_iload (k := 5) (D_Seizings_add 28 rfl) rfl ?_
    have g4 := gd_c h
    replace h := gd_s h
    refine j_iast (NI := 100) (D_Seizings_add 29 rfl) kd_42 lc_42 (wr_gi _ _ _) rfl g4.1 g4.2 ?_
    refine j_gen (fun G4 e4 => ?_)
    replace h := wG_at h e4
    refine j_aloadn (k := 0) (D_Seizings_add 30 rfl) rfl rfl ?_
    refine j_getR rfl fa_Seizings_24 kd_38 lc_38 (by decide) rfl fx_38_4 (by decide) (D_Seizings_add 31 rfl) ?_
    refine j_aloadn (k := 0) (D_Seizings_add 32 rfl) rfl rfl ?_
    refine j_getI rfl fa_Seizings_30 kd_38 lc_38 (by decide) rfl (D_Seizings_add 33 rfl) ?_
    refine j_iload (k := 4) (D_Seizings_add 34 rfl) rfl ?_
    have g5 := gd_c h
    replace h := gd_s h
    refine j_iast (NI := 100) (D_Seizings_add 35 rfl) kd_43 lc_43 (wr_gi _ _ _) rfl g5.1 g5.2 ?_
    refine j_gen (fun G5 e5 => ?_)
    replace h := wG_at h e5
    refine j_aloadn (k := 0) (D_Seizings_add 36 rfl) rfl rfl ?_
    refine j_getR rfl fa_Seizings_27 kd_38 lc_38 (by decide) rfl fx_38_5 (by decide) (D_Seizings_add 37 rfl) ?_
    refine j_aloadn (k := 0) (D_Seizings_add 38 rfl) rfl rfl ?_
    refine j_getI rfl fa_Seizings_30 kd_38 lc_38 (by decide) rfl (D_Seizings_add 39 rfl) ?_
    refine j_iconst (v := (-1)) (D_Seizings_add 40 rfl) rfl ?_
    have g6 := gd_c h
    replace h := gd_s h
    refine j_iast (NI := 100) (D_Seizings_add 41 rfl) kd_44 lc_44 (wr_gi _ _ _) rfl g6.1 g6.2 ?_
    refine j_gen (fun G6 e6 => ?_)
    replace h := wG_at h e6
    refine j_aloadn (k := 0) (D_Seizings_add 42 rfl) rfl rfl ?_
    refine j_dup (D_Seizings_add 43 rfl) rfl ?_
    refine j_getI rfl fa_Seizings_30 kd_38 lc_38 (by decide) rfl (D_Seizings_add 44 rfl) ?_
    refine j_iconst (v := 1) (D_Seizings_add 45 rfl) rfl ?_
    refine j_iadd (D_Seizings_add 46 rfl) ?_
    refine j_putI rfl fa_Seizings_30 kd_38 lc_38 (by decide) rfl (D_Seizings_add 47 rfl) ?_
    refine j_gen (fun G7 e7 => ?_)
    replace h := wG_at h e7
    refine j_aloadn (k := 0) (D_Seizings_add 48 rfl) rfl rfl ?_
    refine j_getI rfl fa_Seizings_30 kd_38 lc_38 (by decide) rfl (D_Seizings_add 49 rfl) ?_
    refine j_iconst (v := 1) (D_Seizings_add 50 rfl) rfl ?_
    refine j_isub (D_Seizings_add 51 rfl) ?_
    exact j_iret (D_Seizings_add 52 rfl) rfl (rfl) rfl rfl (leafI h (wr_n (rfl)))
  · replace h := ite_f h c1
    refine j_iconst (v := (-1)) (D_Seizings_add 4 rfl) rfl ?_
    exact j_iret (D_Seizings_add 5 rfl) rfl (wr_lit rfl) rfl rfl (leafI h (wr_n (wr_lit rfl)))
abbrev M_Hall_seize : MI := (⟨"InquestHall", "seize", "(IIIII)I"⟩, prog_1_method_22_code, 9, (some .int))
theorem cw_Hall_seize : Cond.code M_Hall_seize.1 M_Hall_seize.2.1 M_Hall_seize.2.2.1 M_Hall_seize.2.2.2 ∈ TS := mTS (List.mem_of_getElem? (i := 1116) (by decide +kernel)) (by decide +kernel)
theorem lk_Hall_278 : Cond.methodLink "InquestHall" 278 M_Seizings_stands.1 ∈ TS := mTS (List.mem_of_getElem? (i := 1117) (by decide +kernel)) (by decide +kernel)
theorem mok_Seizings_stands : MOK M_Seizings_stands 1 := ⟨mTS (List.mem_of_getElem? (i := 1118) (by decide +kernel)) (by decide +kernel), mTS (List.mem_of_getElem? (i := 1119) (by decide +kernel)) (by decide +kernel), mTS (List.mem_of_getElem? (i := 136) (by decide +kernel)) (by decide +kernel), cw_Seizings_stands, ⟨by decide, by decide, by decide +kernel⟩, by decide +kernel, by decide⟩
theorem lk_Hall_281 : Cond.methodLink "InquestHall" 281 M_Seizings_add.1 ∈ TS := mTS (List.mem_of_getElem? (i := 1125) (by decide +kernel)) (by decide +kernel)
theorem mok_Seizings_add : MOK M_Seizings_add 5 := ⟨mTS (List.mem_of_getElem? (i := 1126) (by decide +kernel)) (by decide +kernel), mTS (List.mem_of_getElem? (i := 1127) (by decide +kernel)) (by decide +kernel), mTS (List.mem_of_getElem? (i := 136) (by decide +kernel)) (by decide +kernel), cw_Seizings_add, ⟨by decide, by decide, by decide +kernel⟩, by decide +kernel, by decide⟩
theorem fa_Hall_282 : FA "InquestHall" 282 11 6 false .int := ⟨_, _, _, _, ok_Law, by decide, mTS (List.mem_of_getElem? (i := 563) (by decide +kernel)) (by decide +kernel), rfl, rfl⟩
theorem fa_Hall_285 : FA "InquestHall" 285 9 5 true (.array .int) := ⟨_, _, _, _, ok_Seizings, by decide, mTS (List.mem_of_getElem? (i := 490) (by decide +kernel)) (by decide +kernel), rfl, rfl⟩
def tb_Hall_seize : List (Nat × Instr × Nat) := [(0, .aload_n 0, 1), (1, .getfield 19, 3), (4, .iload_n 1, 1), (5, .invokevirtual 150, 3), (8, .ifCond .eq 35, 3), (11, .iload_n 2, 1), (12, .iconst (-1), 1), (13, .if_icmp .eq 14, 3), (16, .aload_n 0, 1), (17, .getfield 12, 3), (20, .iload_n 2, 1), (21, .invokevirtual 122, 3), (24, .ifCond .eq 19, 3), (27, .iload_n 3, 1), (28, .ifCond .lt 15, 3), (31, .iload_n 3, 1), (32, .aload_n 0, 1), (33, .getfield 104, 3), (36, .if_icmp .gt 7, 3), (39, .iconst 1, 1), (40, .goto 4, 3), (43, .iconst 0, 1), (44, .istore 6, 2), (46, .iload 4, 2), (48, .iconst (-1), 1), (49, .if_icmp .eq 15, 3), (52, .aload_n 0, 1), (53, .getfield 74, 3), (56, .iload 4, 2), (58, .invokevirtual 278, 3), (61, .ifCond .eq 7, 3), (64, .iconst 1, 1), (65, .goto 4, 3), (68, .iconst 0, 1), (69, .istore 7, 2), (71, .iload 6, 2), (73, .ifCond .eq 26, 3), (76, .iload 7, 2), (78, .ifCond .eq 21, 3), (81, .iload 5, 2), (83, .iconst (-1), 1), (84, .if_icmp .eq 17, 3), (87, .aload_n 0, 1), (88, .getfield 12, 3), (91, .iload 5, 2), (93, .invokevirtual 125, 3), (96, .ifCond .ne 5, 3), (99, .iconst (-1), 1), (100, .ireturn, 1), (101, .aload_n 0, 1), (102, .getfield 74, 3), (105, .iload_n 1, 1), (106, .iload_n 2, 1), (107, .iload_n 3, 1), (108, .iload 4, 2), (110, .aload_n 0, 1), (111, .getfield 104, 3), (114, .invokevirtual 281, 3), (117, .istore 8, 2), (119, .iload 8, 2), (121, .iconst (-1), 1), (122, .if_icmp .eq 58, 3), (125, .iload 5, 2), (127, .iconst (-1), 1), (128, .if_icmp .eq 52, 3), (131, .aload_n 0, 1), (132, .getfield 104, 3), (135, .aload_n 0, 1), (136, .getfield 12, 3), (139, .getfield 131, 3), (142, .iload 5, 2), (144, .iaload, 1), (145, .aload_n 0, 1), (146, .aload_n 0, 1), (147, .getfield 12, 3), (150, .getfield 131, 3), (153, .iload 5, 2), (155, .iaload, 1), (156, .invokevirtual 185, 3), (159, .getfield 282, 3), (162, .iadd, 1), (163, .if_icmp .le 17, 3), (166, .aload_n 0, 1), (167, .getfield 74, 3), (170, .getfield 285, 3), (173, .iload 8, 2), (175, .aload_n 0, 1), (176, .getfield 104, 3), (179, .iastore, 1), (180, .iload 8, 2), (182, .ireturn, 1)]
theorem D_Hall_seize (i : Nat) {pc len : Nat} {ins : Instr} (hi : tb_Hall_seize[i]? = some (pc, ins, len)) : decode M_Hall_seize.2.1 pc = .ok (ins, len) := dec_of (by decide +kernel) i hi
def f_Hall_seize_L101 (G : GS) (x1 : Int) (x2 : Int) (x3 : Int) (x4 : Int) (x5 : Int) : Option (Int × GS) :=
  (f_Seizings_add G x1 x2 x3 x4 (gi G 0 14)).bind fun q1 =>
  if q1.1 = (-1) then
    some (q1.1, q1.2)
  else
    if x5 = (-1) then
      some (q1.1, q1.2)
    else
      gd (0 ≤ x5 ∧ x5 < 32) <|
      gd (0 ≤ x5 ∧ x5 < 32) <|
      (f_Hall_lawAt q1.2 (gi q1.2 7 x5.toNat)).bind fun q2 =>
      if gi q1.2 0 14 ≤ wr ((gi q1.2 7 x5.toNat) + (gi q1.2 q2 6)) then
        some (q1.1, q1.2)
      else
        gd (0 ≤ q1.1 ∧ q1.1 < 100) <|
        wG (si q1.2 44 q1.1.toNat (gi q1.2 0 14)) fun G1 =>
        some (q1.1, G1)
theorem s_Hall_seize_L101 {X : XT} {r : Int × GS} : ∀ {G : GS} {x1 : Int} {x2 : Int} {x3 : Int} {x4 : Int} {x5 : Int}, wr x1 = x1 → wr x2 = x2 → wr x3 = x3 → wr x4 = x4 → wr x5 = x5 → f_Hall_seize_L101 G x1 x2 x3 x4 x5 = some r → J X true 8 0 0 M_Hall_seize (Ri r.1 r.2) NC 0 0 101 [(0, rf X 0), (1, vi x1), (2, vi x2), (3, vi x3), (4, vi x4), (5, vi x5)] [] G := by
  intro G x1 x2 x3 x4 x5 hx1 hx2 hx3 hx4 hx5 h
  unfold f_Hall_seize_L101 at h
  refine j_aloadn (k := 0) (D_Hall_seize 49 rfl) rfl rfl ?_
  refine j_getR rfl fa_Hall_74 kd_0 lc_0 (by decide) rfl fx_0_8 (by decide) (D_Hall_seize 50 rfl) ?_
  refine j_iloadn (k := 1) (D_Hall_seize 51 rfl) rfl rfl ?_
  refine j_iloadn (k := 2) (D_Hall_seize 52 rfl) rfl rfl ?_
  refine j_iloadn (k := 3) (D_Hall_seize 53 rfl) rfl rfl ?_
  refine j_iload (k := 4) (D_Hall_seize 54 rfl) rfl ?_
  refine j_aloadn (k := 0) (D_Hall_seize 55 rfl) rfl rfl ?_
  refine j_getI rfl fa_Hall_104 kd_0 lc_0 (by decide) rfl (D_Hall_seize 56 rfl) ?_
  obtain ⟨q1, e1, h⟩ := Option.bind_eq_some_iff.mp h
  refine j_cVi (c_Seizings_add (hx1) (hx2) (hx3) (hx4) (wr_gi _ _ _) e1) rfl lk_Hall_281 mok_Seizings_add kd_38 lc_38 rfl (by decide) rfl rfl (Nat.le_of_ble_eq_true rfl) (D_Hall_seize 57 rfl) (fun w1 => ?_)
  refine j_istore (L' := [(8, vi q1.1), (0, rf X 0), (1, vi x1), (2, vi x2), (3, vi x3), (4, vi x4), (5, vi x5)]) (D_Hall_seize 58 rfl) (w1) (by decide) rfl ?_
  refine j_iload (k := 0) (D_Hall_seize 59 rfl) rfl ?_
  refine j_iconst (v := (-1)) (D_Hall_seize 60 rfl) rfl ?_
  refine j_ic_eq (tgt := 180) (D_Hall_seize 61 rfl) rfl (w1) (wr_lit rfl) (fun c1 => ?_) (fun c1 => ?_)
  · replace h := ite_t h c1
    refine j_iload (k := 0) (D_Hall_seize 89 rfl) rfl ?_
    exact j_iret (D_Hall_seize 90 rfl) rfl (w1) rfl rfl (leafI h (wr_n (w1)))
  · replace h := ite_f h c1
    refine j_iload (k := 6) (D_Hall_seize 62 rfl) rfl ?_
    refine j_iconst (v := (-1)) (D_Hall_seize 63 rfl) rfl ?_
    refine j_ic_eq (tgt := 180) (D_Hall_seize 64 rfl) rfl (hx5) (wr_lit rfl) (fun c2 => ?_) (fun c2 => ?_)
    · replace h := ite_t h c2
      refine j_iload (k := 0) (D_Hall_seize 89 rfl) rfl ?_
      exact j_iret (D_Hall_seize 90 rfl) rfl (w1) rfl rfl (leafI h (wr_n (w1)))
    · replace h := ite_f h c2
      refine j_aloadn (k := 1) (D_Hall_seize 65 rfl) rfl rfl ?_
      refine j_getI rfl fa_Hall_104 kd_0 lc_0 (by decide) rfl (D_Hall_seize 66 rfl) ?_
      refine j_aloadn (k := 1) (D_Hall_seize 67 rfl) rfl rfl ?_
      refine j_getR rfl fa_Hall_12 kd_0 lc_0 (by decide) rfl fx_0_0 (by decide) (D_Hall_seize 68 rfl) ?_
      refine j_getR rfl fa_Hall_131 kd_1 lc_1 (by decide) rfl fx_1_5 (by decide) (D_Hall_seize 69 rfl) ?_
      refine j_iload (k := 6) (D_Hall_seize 70 rfl) rfl ?_
      have g1 := gd_c h
      replace h := gd_s h
      refine j_iald (NI := 32) (D_Hall_seize 71 rfl) kd_7 lc_7 (hx5) rfl g1.1 g1.2 ?_
      refine j_aloadn (k := 1) (D_Hall_seize 72 rfl) rfl rfl ?_
      refine j_aloadn (k := 1) (D_Hall_seize 73 rfl) rfl rfl ?_
      refine j_getR rfl fa_Hall_12 kd_0 lc_0 (by decide) rfl fx_0_0 (by decide) (D_Hall_seize 74 rfl) ?_
      refine j_getR rfl fa_Hall_131 kd_1 lc_1 (by decide) rfl fx_1_5 (by decide) (D_Hall_seize 75 rfl) ?_
      refine j_iload (k := 6) (D_Hall_seize 76 rfl) rfl ?_
      have g2 := gd_c h
      replace h := gd_s h
      refine j_iald (NI := 32) (D_Hall_seize 77 rfl) kd_7 lc_7 (hx5) rfl g2.1 g2.2 ?_
      obtain ⟨q2, e2, h⟩ := Option.bind_eq_some_iff.mp h
      refine j_cVr (c_Hall_lawAt (wr_gi _ _ _) e2) rfl lk_Hall_185 mok_Hall_lawAt kd_0 lc_0 rfl (by decide) rfl rfl (Nat.le_of_ble_eq_true rfl) (D_Hall_seize 78 rfl) (fun w2 => ?_)
      refine j_getI rfl fa_Hall_282 (law_kd w2).1 (law_kd w2).2.1 (by decide) rfl (D_Hall_seize 79 rfl) ?_
      refine j_iadd (D_Hall_seize 80 rfl) ?_
      refine j_ic_le (tgt := 180) (D_Hall_seize 81 rfl) rfl (wr_gi _ _ _) (rfl) (fun c3 => ?_) (fun c3 => ?_)
      · replace h := ite_t h c3
        refine j_iload (k := 0) (D_Hall_seize 89 rfl) rfl ?_
        exact j_iret (D_Hall_seize 90 rfl) rfl (w1) rfl rfl (leafI h (wr_n (w1)))
      · replace h := ite_f h c3
        refine j_aloadn (k := 1) (D_Hall_seize 82 rfl) rfl rfl ?_
        refine j_getR rfl fa_Hall_74 kd_0 lc_0 (by decide) rfl fx_0_8 (by decide) (D_Hall_seize 83 rfl) ?_
        refine j_getR rfl fa_Hall_285 kd_38 lc_38 (by decide) rfl fx_38_5 (by decide) (D_Hall_seize 84 rfl) ?_
        refine j_iload (k := 0) (D_Hall_seize 85 rfl) rfl ?_
        refine j_aloadn (k := 1) (D_Hall_seize 86 rfl) rfl rfl ?_
        refine j_getI rfl fa_Hall_104 kd_0 lc_0 (by decide) rfl (D_Hall_seize 87 rfl) ?_
        have g3 := gd_c h
        replace h := gd_s h
        refine j_iast (NI := 100) (D_Hall_seize 88 rfl) kd_44 lc_44 (w1) rfl g3.1 g3.2 ?_
        refine j_gen (fun G1 e3 => ?_)
        replace h := wG_at h e3
        refine j_iload (k := 0) (D_Hall_seize 89 rfl) rfl ?_
        exact j_iret (D_Hall_seize 90 rfl) rfl (w1) rfl rfl (leafI h (wr_n (w1)))
def f_Hall_seize_L69 (G : GS) (x1 : Int) (x2 : Int) (x3 : Int) (x4 : Int) (x5 : Int) (x6 : Int) (s0 : Int) : Option (Int × GS) :=
  if x6 = 0 then
    some ((-1), G)
  else
    if s0 = 0 then
      some ((-1), G)
    else
      if x5 = (-1) then
        f_Hall_seize_L101 G x1 x2 x3 x4 x5
      else
        (f_People_isDead G x5).bind fun q1 =>
        if q1 = 0 then
          some ((-1), G)
        else
          f_Hall_seize_L101 G x1 x2 x3 x4 x5
theorem s_Hall_seize_L69 {X : XT} {r : Int × GS} : ∀ {G : GS} {x1 : Int} {x2 : Int} {x3 : Int} {x4 : Int} {x5 : Int} {x6 : Int} {s0 : Int}, wr x1 = x1 → wr x2 = x2 → wr x3 = x3 → wr x4 = x4 → wr x5 = x5 → wr x6 = x6 → wr s0 = s0 → f_Hall_seize_L69 G x1 x2 x3 x4 x5 x6 s0 = some r → J X true 8 0 0 M_Hall_seize (Ri r.1 r.2) NC 0 0 69 [(0, rf X 0), (1, vi x1), (2, vi x2), (3, vi x3), (4, vi x4), (5, vi x5), (6, vi x6)] [vi s0] G := by
  intro G x1 x2 x3 x4 x5 x6 s0 hx1 hx2 hx3 hx4 hx5 hx6 hs0 h
  unfold f_Hall_seize_L69 at h
  refine j_istore (L' := [(7, vi s0), (0, rf X 0), (1, vi x1), (2, vi x2), (3, vi x3), (4, vi x4), (5, vi x5), (6, vi x6)]) (D_Hall_seize 34 rfl) (hs0) (by decide) rfl ?_
  refine j_iload (k := 7) (D_Hall_seize 35 rfl) rfl ?_
  refine j_if_eq (tgt := 99) (D_Hall_seize 36 rfl) rfl (hx6) (fun c1 => ?_) (fun c1 => ?_)
  · replace h := ite_t h c1
    refine j_iconst (v := (-1)) (D_Hall_seize 47 rfl) rfl ?_
    exact j_iret (D_Hall_seize 48 rfl) rfl (wr_lit rfl) rfl rfl (leafI h (wr_n (wr_lit rfl)))
  · replace h := ite_f h c1
    refine j_iload (k := 0) (D_Hall_seize 37 rfl) rfl ?_
    refine j_if_eq (tgt := 99) (D_Hall_seize 38 rfl) rfl (hs0) (fun c2 => ?_) (fun c2 => ?_)
    · replace h := ite_t h c2
      refine j_iconst (v := (-1)) (D_Hall_seize 47 rfl) rfl ?_
      exact j_iret (D_Hall_seize 48 rfl) rfl (wr_lit rfl) rfl rfl (leafI h (wr_n (wr_lit rfl)))
    · replace h := ite_f h c2
      refine j_iload (k := 6) (D_Hall_seize 39 rfl) rfl ?_
      refine j_iconst (v := (-1)) (D_Hall_seize 40 rfl) rfl ?_
      refine j_ic_eq (tgt := 101) (D_Hall_seize 41 rfl) rfl (hx5) (wr_lit rfl) (fun c3 => ?_) (fun c3 => ?_)
      · replace h := ite_t h c3
        refine j_loc [1, 2, 3, 4, 5, 6] rfl ?_
        exact s_Hall_seize_L101 (hx1) (hx2) (hx3) (hx4) (hx5) h
      · replace h := ite_f h c3
        refine j_aloadn (k := 1) (D_Hall_seize 42 rfl) rfl rfl ?_
        refine j_getR rfl fa_Hall_12 kd_0 lc_0 (by decide) rfl fx_0_0 (by decide) (D_Hall_seize 43 rfl) ?_
        refine j_iload (k := 6) (D_Hall_seize 44 rfl) rfl ?_
        obtain ⟨q1, e1, h⟩ := Option.bind_eq_some_iff.mp h
        refine j_cVz (c_People_isDead (hx5) e1) rfl lk_Hall_125 mok_People_isDead kd_1 lc_1 rfl (by decide) rfl rfl (Nat.le_of_ble_eq_true rfl) (D_Hall_seize 45 rfl) (fun w1 bw1 => ?_)
        refine j_if_ne (tgt := 101) (D_Hall_seize 46 rfl) rfl (w1) (fun c4 => ?_) (fun c4 => ?_)
        · replace h := ite_f h c4
          refine j_loc [1, 2, 3, 4, 5, 6] rfl ?_
          exact s_Hall_seize_L101 (hx1) (hx2) (hx3) (hx4) (hx5) h
        · replace h := ite_t h c4
          refine j_iconst (v := (-1)) (D_Hall_seize 47 rfl) rfl ?_
          exact j_iret (D_Hall_seize 48 rfl) rfl (wr_lit rfl) rfl rfl (leafI h (wr_n (wr_lit rfl)))
def f_Hall_seize_L64 (G : GS) (x1 : Int) (x2 : Int) (x3 : Int) (x4 : Int) (x5 : Int) (x6 : Int) : Option (Int × GS) :=
  f_Hall_seize_L69 G x1 x2 x3 x4 x5 x6 1
theorem s_Hall_seize_L64 {X : XT} {r : Int × GS} : ∀ {G : GS} {x1 : Int} {x2 : Int} {x3 : Int} {x4 : Int} {x5 : Int} {x6 : Int}, wr x1 = x1 → wr x2 = x2 → wr x3 = x3 → wr x4 = x4 → wr x5 = x5 → wr x6 = x6 → f_Hall_seize_L64 G x1 x2 x3 x4 x5 x6 = some r → J X true 8 0 0 M_Hall_seize (Ri r.1 r.2) NC 0 0 64 [(0, rf X 0), (1, vi x1), (2, vi x2), (3, vi x3), (4, vi x4), (5, vi x5), (6, vi x6)] [] G := by
  intro G x1 x2 x3 x4 x5 x6 hx1 hx2 hx3 hx4 hx5 hx6 h
  unfold f_Hall_seize_L64 at h
  refine j_iconst (v := 1) (D_Hall_seize 31 rfl) rfl ?_
  refine j_goto (tgt := 69) (D_Hall_seize 32 rfl) rfl ?_
  refine j_loc [0, 1, 2, 3, 4, 5, 6] rfl ?_
  exact s_Hall_seize_L69 (hx1) (hx2) (hx3) (hx4) (hx5) (hx6) (wr_lit rfl) h
def f_Hall_seize_L44 (G : GS) (x1 : Int) (x2 : Int) (x3 : Int) (x4 : Int) (x5 : Int) (s0 : Int) : Option (Int × GS) :=
  if x4 = (-1) then
    f_Hall_seize_L64 G x1 x2 x3 x4 x5 s0
  else
    (f_Seizings_stands G x4).bind fun q1 =>
    if q1 = 0 then
      f_Hall_seize_L69 G x1 x2 x3 x4 x5 s0 0
    else
      f_Hall_seize_L64 G x1 x2 x3 x4 x5 s0
theorem s_Hall_seize_L44 {X : XT} {r : Int × GS} : ∀ {G : GS} {x1 : Int} {x2 : Int} {x3 : Int} {x4 : Int} {x5 : Int} {s0 : Int}, wr x1 = x1 → wr x2 = x2 → wr x3 = x3 → wr x4 = x4 → wr x5 = x5 → wr s0 = s0 → f_Hall_seize_L44 G x1 x2 x3 x4 x5 s0 = some r → J X true 8 0 0 M_Hall_seize (Ri r.1 r.2) NC 0 0 44 [(0, rf X 0), (1, vi x1), (2, vi x2), (3, vi x3), (4, vi x4), (5, vi x5)] [vi s0] G := by
  intro G x1 x2 x3 x4 x5 s0 hx1 hx2 hx3 hx4 hx5 hs0 h
  unfold f_Hall_seize_L44 at h
  refine j_istore (L' := [(6, vi s0), (0, rf X 0), (1, vi x1), (2, vi x2), (3, vi x3), (4, vi x4), (5, vi x5)]) (D_Hall_seize 22 rfl) (hs0) (by decide) rfl ?_
  refine j_iload (k := 5) (D_Hall_seize 23 rfl) rfl ?_
  refine j_iconst (v := (-1)) (D_Hall_seize 24 rfl) rfl ?_
  refine j_ic_eq (tgt := 64) (D_Hall_seize 25 rfl) rfl (hx4) (wr_lit rfl) (fun c1 => ?_) (fun c1 => ?_)
  · replace h := ite_t h c1
    refine j_loc [1, 2, 3, 4, 5, 6, 0] rfl ?_
    exact s_Hall_seize_L64 (hx1) (hx2) (hx3) (hx4) (hx5) (hs0) h
  · replace h := ite_f h c1
    refine j_aloadn (k := 1) (D_Hall_seize 26 rfl) rfl rfl ?_
    refine j_getR rfl fa_Hall_74 kd_0 lc_0 (by decide) rfl fx_0_8 (by decide) (D_Hall_seize 27 rfl) ?_
    refine j_iload (k := 5) (D_Hall_seize 28 rfl) rfl ?_
    obtain ⟨q1, e1, h⟩ := Option.bind_eq_some_iff.mp h
    refine j_cVz (c_Seizings_stands (hx4) e1) rfl lk_Hall_278 mok_Seizings_stands kd_38 lc_38 rfl (by decide) rfl rfl (Nat.le_of_ble_eq_true rfl) (D_Hall_seize 29 rfl) (fun w1 bw1 => ?_)
    refine j_if_eq (tgt := 68) (D_Hall_seize 30 rfl) rfl (w1) (fun c2 => ?_) (fun c2 => ?_)
    · replace h := ite_t h c2
      refine j_iconst (v := 0) (D_Hall_seize 33 rfl) rfl ?_
      refine j_loc [1, 2, 3, 4, 5, 6, 0] rfl ?_
      exact s_Hall_seize_L69 (hx1) (hx2) (hx3) (hx4) (hx5) (hs0) (wr_lit rfl) h
    · replace h := ite_f h c2
      refine j_loc [1, 2, 3, 4, 5, 6, 0] rfl ?_
      exact s_Hall_seize_L64 (hx1) (hx2) (hx3) (hx4) (hx5) (hs0) h
def f_Hall_seize_L43 (G : GS) (x1 : Int) (x2 : Int) (x3 : Int) (x4 : Int) (x5 : Int) : Option (Int × GS) :=
  f_Hall_seize_L44 G x1 x2 x3 x4 x5 0
theorem s_Hall_seize_L43 {X : XT} {r : Int × GS} : ∀ {G : GS} {x1 : Int} {x2 : Int} {x3 : Int} {x4 : Int} {x5 : Int}, wr x1 = x1 → wr x2 = x2 → wr x3 = x3 → wr x4 = x4 → wr x5 = x5 → f_Hall_seize_L43 G x1 x2 x3 x4 x5 = some r → J X true 8 0 0 M_Hall_seize (Ri r.1 r.2) NC 0 0 43 [(0, rf X 0), (1, vi x1), (2, vi x2), (3, vi x3), (4, vi x4), (5, vi x5)] [] G := by
  intro G x1 x2 x3 x4 x5 hx1 hx2 hx3 hx4 hx5 h
  unfold f_Hall_seize_L43 at h
  refine j_iconst (v := 0) (D_Hall_seize 21 rfl) rfl ?_
  refine j_loc [0, 1, 2, 3, 4, 5] rfl ?_
  exact s_Hall_seize_L44 (hx1) (hx2) (hx3) (hx4) (hx5) (wr_lit rfl) h
def f_Hall_seize_L27 (G : GS) (x1 : Int) (x2 : Int) (x3 : Int) (x4 : Int) (x5 : Int) : Option (Int × GS) :=
  if x3 < 0 then
    f_Hall_seize_L43 G x1 x2 x3 x4 x5
  else
    if gi G 0 14 < x3 then
      f_Hall_seize_L43 G x1 x2 x3 x4 x5
    else
      f_Hall_seize_L44 G x1 x2 x3 x4 x5 1
theorem s_Hall_seize_L27 {X : XT} {r : Int × GS} : ∀ {G : GS} {x1 : Int} {x2 : Int} {x3 : Int} {x4 : Int} {x5 : Int}, wr x1 = x1 → wr x2 = x2 → wr x3 = x3 → wr x4 = x4 → wr x5 = x5 → f_Hall_seize_L27 G x1 x2 x3 x4 x5 = some r → J X true 8 0 0 M_Hall_seize (Ri r.1 r.2) NC 0 0 27 [(0, rf X 0), (1, vi x1), (2, vi x2), (3, vi x3), (4, vi x4), (5, vi x5)] [] G := by
  intro G x1 x2 x3 x4 x5 hx1 hx2 hx3 hx4 hx5 h
  unfold f_Hall_seize_L27 at h
  refine j_iloadn (k := 3) (D_Hall_seize 13 rfl) rfl rfl ?_
  refine j_if_lt (tgt := 43) (D_Hall_seize 14 rfl) rfl (hx3) (fun c1 => ?_) (fun c1 => ?_)
  · replace h := ite_t h c1
    refine j_loc [0, 1, 2, 3, 4, 5] rfl ?_
    exact s_Hall_seize_L43 (hx1) (hx2) (hx3) (hx4) (hx5) h
  · replace h := ite_f h c1
    refine j_iloadn (k := 3) (D_Hall_seize 15 rfl) rfl rfl ?_
    refine j_aloadn (k := 0) (D_Hall_seize 16 rfl) rfl rfl ?_
    refine j_getI rfl fa_Hall_104 kd_0 lc_0 (by decide) rfl (D_Hall_seize 17 rfl) ?_
    refine j_ic_gt (tgt := 43) (D_Hall_seize 18 rfl) rfl (hx3) (wr_gi _ _ _) (fun c2 => ?_) (fun c2 => ?_)
    · replace h := ite_t h c2
      refine j_loc [0, 1, 2, 3, 4, 5] rfl ?_
      exact s_Hall_seize_L43 (hx1) (hx2) (hx3) (hx4) (hx5) h
    · replace h := ite_f h c2
      refine j_iconst (v := 1) (D_Hall_seize 19 rfl) rfl ?_
      refine j_goto (tgt := 44) (D_Hall_seize 20 rfl) rfl ?_
      refine j_loc [0, 1, 2, 3, 4, 5] rfl ?_
      exact s_Hall_seize_L44 (hx1) (hx2) (hx3) (hx4) (hx5) (wr_lit rfl) h
def f_Hall_seize (G : GS) (a1 : Int) (a2 : Int) (a3 : Int) (a4 : Int) (a5 : Int) : Option (Int × GS) :=
  (f_Lands_has G a1).bind fun q1 =>
  if q1 = 0 then
    f_Hall_seize_L43 G a1 a2 a3 a4 a5
  else
    if a2 = (-1) then
      f_Hall_seize_L27 G a1 a2 a3 a4 a5
    else
      (f_People_has G a2).bind fun q2 =>
      if q2 = 0 then
        f_Hall_seize_L43 G a1 a2 a3 a4 a5
      else
        f_Hall_seize_L27 G a1 a2 a3 a4 a5
theorem c_Hall_seize {X : XT} {G : GS} {a1 : Int} {a2 : Int} {a3 : Int} {a4 : Int} {a5 : Int} {r : Int × GS} (ha1 : wr a1 = a1) (ha2 : wr a2 = a2) (ha3 : wr a3 = a3) (ha4 : wr a4 = a4) (ha5 : wr a5 = a5) (h : f_Hall_seize G a1 a2 a3 a4 a5 = some r) : Call X true 8 0 0 M_Hall_seize [rf X 0, vi a1, vi a2, vi a3, vi a4, vi a5] NC G (Ri r.1 r.2) := by
  refine Call_of_J cw_Hall_seize (by decide +kernel) (Nat.le_of_ble_eq_true rfl) ?_
  unfold f_Hall_seize at h
  show J X true 8 0 0 M_Hall_seize (Ri r.1 r.2) NC 0 0 0 [(0, rf X 0), (1, vi a1), (2, vi a2), (3, vi a3), (4, vi a4), (5, vi a5)] [] G
  refine j_aloadn (k := 0) (D_Hall_seize 0 rfl) rfl rfl ?_
  refine j_getR rfl fa_Hall_19 kd_0 lc_0 (by decide) rfl fx_0_1 (by decide) (D_Hall_seize 1 rfl) ?_
  refine j_iloadn (k := 1) (D_Hall_seize 2 rfl) rfl rfl ?_
  obtain ⟨q1, e1, h⟩ := Option.bind_eq_some_iff.mp h
  refine j_cVz (c_Lands_has (ha1) e1) rfl lk_Hall_150 mok_Lands_has kd_9 lc_9 rfl (by decide) rfl rfl (Nat.le_of_ble_eq_true rfl) (D_Hall_seize 3 rfl) (fun w1 bw1 => ?_)
  refine j_if_eq (tgt := 43) (D_Hall_seize 4 rfl) rfl (w1) (fun c1 => ?_) (fun c1 => ?_)
  · replace h := ite_t h c1
    refine j_loc [0, 1, 2, 3, 4, 5] rfl ?_
    exact s_Hall_seize_L43 (ha1) (ha2) (ha3) (ha4) (ha5) h
  · replace h := ite_f h c1
    refine j_iloadn (k := 2) (D_Hall_seize 5 rfl) rfl rfl ?_
    refine j_iconst (v := (-1)) (D_Hall_seize 6 rfl) rfl ?_
    refine j_ic_eq (tgt := 27) (D_Hall_seize 7 rfl) rfl (ha2) (wr_lit rfl) (fun c2 => ?_) (fun c2 => ?_)
    · replace h := ite_t h c2
      refine j_loc [0, 1, 2, 3, 4, 5] rfl ?_
      exact s_Hall_seize_L27 (ha1) (ha2) (ha3) (ha4) (ha5) h
    · replace h := ite_f h c2
      refine j_aloadn (k := 0) (D_Hall_seize 8 rfl) rfl rfl ?_
      refine j_getR rfl fa_Hall_12 kd_0 lc_0 (by decide) rfl fx_0_0 (by decide) (D_Hall_seize 9 rfl) ?_
      refine j_iloadn (k := 2) (D_Hall_seize 10 rfl) rfl rfl ?_
      obtain ⟨q2, e2, h⟩ := Option.bind_eq_some_iff.mp h
      refine j_cVz (c_People_has (ha2) e2) rfl lk_Hall_122 mok_People_has kd_1 lc_1 rfl (by decide) rfl rfl (Nat.le_of_ble_eq_true rfl) (D_Hall_seize 11 rfl) (fun w2 bw2 => ?_)
      refine j_if_eq (tgt := 43) (D_Hall_seize 12 rfl) rfl (w2) (fun c3 => ?_) (fun c3 => ?_)
      · replace h := ite_t h c3
        refine j_loc [0, 1, 2, 3, 4, 5] rfl ?_
        exact s_Hall_seize_L43 (ha1) (ha2) (ha3) (ha4) (ha5) h
      · replace h := ite_f h c3
        refine j_loc [0, 1, 2, 3, 4, 5] rfl ?_
        exact s_Hall_seize_L27 (ha1) (ha2) (ha3) (ha4) (ha5) h
abbrev M_Model_isSeizing : MI := (⟨"InquestHallModel", "isSeizing", "(I)Z"⟩, prog_14_method_80_code, 2, (some .boolean))
theorem cw_Model_isSeizing : Cond.code M_Model_isSeizing.1 M_Model_isSeizing.2.1 M_Model_isSeizing.2.2.1 M_Model_isSeizing.2.2.2 ∈ TS := mTS (List.mem_of_getElem? (i := 1920) (by decide +kernel)) (by decide +kernel)
def tb_Model_isSeizing : List (Nat × Instr × Nat) := [(0, .iload_n 1, 1), (1, .iconst 0, 1), (2, .aload_n 0, 1), (3, .getfield 531, 3), (6, .iconst 1, 1), (7, .isub, 1), (8, .invokestatic 188, 3), (11, .ireturn, 1)]
theorem D_Model_isSeizing (i : Nat) {pc len : Nat} {ins : Instr} (hi : tb_Model_isSeizing[i]? = some (pc, ins, len)) : decode M_Model_isSeizing.2.1 pc = .ok (ins, len) := dec_of (by decide +kernel) i hi
def f_Model_isSeizing (G : GS) (a1 : Int) : Option (Int) :=
  (f_Model_isIn G a1 0 (wr ((gi G 81 66) - 1))).bind fun q1 =>
  some q1
theorem c_Model_isSeizing {X : XT} {G : GS} {a1 : Int} {r : Int} (ha1 : wr a1 = a1) (h : f_Model_isSeizing G a1 = some r) : Call X true 7 0 0 M_Model_isSeizing [rf X 81, vi a1] NC G (Rz r G) := by
  refine Call_of_J cw_Model_isSeizing (by decide +kernel) (Nat.le_of_ble_eq_true rfl) ?_
  unfold f_Model_isSeizing at h
  show J X true 7 0 0 M_Model_isSeizing (Rz r G) NC 0 0 0 [(0, rf X 81), (1, vi a1)] [] G
  refine j_iloadn (k := 1) (D_Model_isSeizing 0 rfl) rfl rfl ?_
  refine j_iconst (v := 0) (D_Model_isSeizing 1 rfl) rfl ?_
  refine j_aloadn (k := 0) (D_Model_isSeizing 2 rfl) rfl rfl ?_
  refine j_getI rfl fa_Model_531 kd_81 lc_81 (by decide) rfl (D_Model_isSeizing 3 rfl) ?_
  refine j_iconst (v := 1) (D_Model_isSeizing 4 rfl) rfl ?_
  refine j_isub (D_Model_isSeizing 5 rfl) ?_
  refine j_top0 (rfl) ?_
  obtain ⟨q1, e1, h⟩ := Option.bind_eq_some_iff.mp h
  refine j_cSz (c_Model_isIn (ha1) (wr_lit rfl) (wr_wr _) e1) rfl lk_Model_188 sok_Model_isIn (by decide) rfl rfl (Nat.le_of_ble_eq_true rfl) (D_Model_isSeizing 6 rfl) (fun w1 bw1 => ?_)
  exact j_zret (D_Model_isSeizing 7 rfl) rfl (w1) (nz_01 bw1) rfl rfl (leafZo h (wr_n (w1)) bw1)
abbrev M_Model_seize : MI := (⟨"InquestHallModel", "seize", "(IIIII)I"⟩, prog_14_method_81_code, 7, (some .int))
theorem cw_Model_seize : Cond.code M_Model_seize.1 M_Model_seize.2.1 M_Model_seize.2.2.1 M_Model_seize.2.2.2 ∈ TS := mTS (List.mem_of_getElem? (i := 1916) (by decide +kernel)) (by decide +kernel)
theorem lk_Model_534 : Cond.methodLink "InquestHallModel" 534 M_Model_isSeizing.1 ∈ TS := mTS (List.mem_of_getElem? (i := 1917) (by decide +kernel)) (by decide +kernel)
theorem mok_Model_isSeizing : MOK M_Model_isSeizing 1 := ⟨mTS (List.mem_of_getElem? (i := 1919) (by decide +kernel)) (by decide +kernel), mTS (List.mem_of_getElem? (i := 112) (by decide +kernel)) (by decide +kernel), mTS (List.mem_of_getElem? (i := 139) (by decide +kernel)) (by decide +kernel), cw_Model_isSeizing, ⟨by decide, by decide, by decide +kernel⟩, by decide +kernel, by decide⟩
theorem fa_Model_151 : FA "InquestHallModel" 151 12 71 true (.array .int) := ⟨_, _, _, _, ok_Model, by decide, mTS (List.mem_of_getElem? (i := 1372) (by decide +kernel)) (by decide +kernel), rfl, rfl⟩
theorem fx_81_71 {G : GS} (w : WF true NC G) : G.2.2 81 71 = 127 := w.2 rfl (81, 71, 127) (by decide)
theorem kd_127 : kd 127 = (0, 100) := rfl
theorem lc_127 : 127 < NC := by decide
def tb_Model_seize : List (Nat × Instr × Nat) := [(0, .aload_n 0, 1), (1, .iload_n 1, 1), (2, .invokevirtual 219, 3), (5, .ifCond .eq 89, 3), (8, .iload_n 2, 1), (9, .iconst (-1), 1), (10, .if_icmp .eq 11, 3), (13, .aload_n 0, 1), (14, .iload_n 2, 1), (15, .invokevirtual 198, 3), (18, .ifCond .eq 76, 3), (21, .iload_n 3, 1), (22, .iconst 0, 1), (23, .aload_n 0, 1), (24, .getfield 192, 3), (27, .invokestatic 188, 3), (30, .ifCond .eq 64, 3), (33, .iload 4, 2), (35, .iconst (-1), 1), (36, .if_icmp .eq 23, 3), (39, .aload_n 0, 1), (40, .iload 4, 2), (42, .invokevirtual 534, 3), (45, .ifCond .eq 49, 3), (48, .aload_n 0, 1), (49, .getfield 154, 3), (52, .iload 4, 2), (54, .iaload, 1), (55, .iconst (-1), 1), (56, .if_icmp .ne 38, 3), (59, .iload 5, 2), (61, .iconst (-1), 1), (62, .if_icmp .eq 23, 3), (65, .aload_n 0, 1), (66, .iload 5, 2), (68, .invokevirtual 198, 3), (71, .ifCond .eq 23, 3), (74, .aload_n 0, 1), (75, .getfield 25, 3), (78, .iload 5, 2), (80, .iaload, 1), (81, .iconst (-1), 1), (82, .if_icmp .eq 12, 3), (85, .aload_n 0, 1), (86, .getfield 531, 3), (89, .bipush 100, 2), (91, .if_icmp .ne 5, 3), (94, .iconst (-1), 1), (95, .ireturn, 1), (96, .aload_n 0, 1), (97, .getfield 531, 3), (100, .istore 6, 2), (102, .aload_n 0, 1), (103, .dup, 1), (104, .getfield 531, 3), (107, .iconst 1, 1), (108, .iadd, 1), (109, .putfield 531, 3), (112, .aload_n 0, 1), (113, .getfield 139, 3), (116, .iload 6, 2), (118, .iload_n 1, 1), (119, .iastore, 1), (120, .aload_n 0, 1), (121, .getfield 142, 3), (124, .iload 6, 2), (126, .iload_n 2, 1), (127, .iastore, 1), (128, .aload_n 0, 1), (129, .getfield 145, 3), (132, .iload 6, 2), (134, .iload_n 3, 1), (135, .iastore, 1), (136, .aload_n 0, 1), (137, .getfield 148, 3), (140, .iload 6, 2), (142, .aload_n 0, 1), (143, .getfield 192, 3), (146, .iastore, 1), (147, .aload_n 0, 1), (148, .getfield 151, 3), (151, .iload 6, 2), (153, .iload 4, 2), (155, .iastore, 1), (156, .aload_n 0, 1), (157, .getfield 154, 3), (160, .iload 6, 2), (162, .iload 5, 2), (164, .iconst (-1), 1), (165, .if_icmp .eq 41, 3), (168, .aload_n 0, 1), (169, .getfield 192, 3), (172, .aload_n 0, 1), (173, .getfield 25, 3), (176, .iload 5, 2), (178, .iaload, 1), (179, .isub, 1), (180, .aload_n 0, 1), (181, .getfield 58, 3), (184, .aload_n 0, 1), (185, .aload_n 0, 1), (186, .getfield 25, 3), (189, .iload 5, 2), (191, .iaload, 1), (192, .invokevirtual 417, 3), (195, .iaload, 1), (196, .if_icmp .le 10, 3), (199, .aload_n 0, 1), (200, .getfield 192, 3), (203, .goto 4, 3), (206, .iconst (-1), 1), (207, .iastore, 1), (208, .iload 6, 2), (210, .ireturn, 1)]
theorem D_Model_seize (i : Nat) {pc len : Nat} {ins : Instr} (hi : tb_Model_seize[i]? = some (pc, ins, len)) : decode M_Model_seize.2.1 pc = .ok (ins, len) := dec_of (by decide +kernel) i hi
def f_Model_seize_L207 (G : GS) (x6 : Int) (s0 : Int) (s1 : Int) : Option (Int × GS) :=
  gd (0 ≤ s1 ∧ s1 < 100) <|
  wG (si G 128 s1.toNat s0) fun G1 =>
  some (x6, G1)
theorem s_Model_seize_L207 {X : XT} {r : Int × GS} : ∀ {G : GS} {x6 : Int} {s0 : Int} {s1 : Int}, wr x6 = x6 → wr s0 = s0 → wr s1 = s1 → f_Model_seize_L207 G x6 s0 s1 = some r → J X true 8 0 0 M_Model_seize (Ri r.1 r.2) NC 0 0 207 [(0, rf X 81), (6, vi x6)] [vi s0, vi s1, rf X 128] G := by
  intro G x6 s0 s1 hx6 hs0 hs1 h
  unfold f_Model_seize_L207 at h
  have g1 := gd_c h
  replace h := gd_s h
  refine j_iast (NI := 100) (D_Model_seize 111 rfl) kd_128 lc_128 (hs1) rfl g1.1 g1.2 ?_
  refine j_gen (fun G1 e1 => ?_)
  replace h := wG_at h e1
  refine j_iload (k := 1) (D_Model_seize 112 rfl) rfl ?_
  exact j_iret (D_Model_seize 113 rfl) rfl (hx6) rfl rfl (leafI h (wr_n (hx6)))
def f_Model_seize_L206 (G : GS) (x6 : Int) (s0 : Int) : Option (Int × GS) :=
  f_Model_seize_L207 G x6 (-1) s0
theorem s_Model_seize_L206 {X : XT} {r : Int × GS} : ∀ {G : GS} {x6 : Int} {s0 : Int}, wr x6 = x6 → wr s0 = s0 → f_Model_seize_L206 G x6 s0 = some r → J X true 8 0 0 M_Model_seize (Ri r.1 r.2) NC 0 0 206 [(0, rf X 81), (6, vi x6)] [vi s0, rf X 128] G := by
  intro G x6 s0 hx6 hs0 h
  unfold f_Model_seize_L206 at h
  refine j_iconst (v := (-1)) (D_Model_seize 110 rfl) rfl ?_
  refine j_loc [0, 1] rfl ?_
  exact s_Model_seize_L207 (hx6) (wr_lit rfl) (hs0) h
def f_Model_seize_L85 (G : GS) (x1 : Int) (x2 : Int) (x3 : Int) (x4 : Int) (x5 : Int) : Option (Int × GS) :=
  if gi G 81 66 = 100 then
    some ((-1), G)
  else
    wG (si G 81 66 ((gi G 81 66) + 1)) fun G1 =>
    gd (0 ≤ gi G 81 66 ∧ gi G 81 66 < 100) <|
    wG (si G1 123 (gi G 81 66).toNat x1) fun G2 =>
    gd (0 ≤ gi G 81 66 ∧ gi G 81 66 < 100) <|
    wG (si G2 124 (gi G 81 66).toNat x2) fun G3 =>
    gd (0 ≤ gi G 81 66 ∧ gi G 81 66 < 100) <|
    wG (si G3 125 (gi G 81 66).toNat x3) fun G4 =>
    gd (0 ≤ gi G 81 66 ∧ gi G 81 66 < 100) <|
    wG (si G4 126 (gi G 81 66).toNat (gi G4 81 0)) fun G5 =>
    gd (0 ≤ gi G 81 66 ∧ gi G 81 66 < 100) <|
    wG (si G5 127 (gi G 81 66).toNat x4) fun G6 =>
    if x5 = (-1) then
      f_Model_seize_L206 G6 (gi G 81 66) (gi G 81 66)
    else
      gd (0 ≤ x5 ∧ x5 < 32) <|
      gd (0 ≤ x5 ∧ x5 < 32) <|
      (f_Model_reignOn G6 (gi G6 87 x5.toNat)).bind fun q1 =>
      gd (0 ≤ q1 ∧ q1 < 4) <|
      if wr ((gi G6 81 0) - (gi G6 87 x5.toNat)) ≤ gi G6 98 q1.toNat then
        f_Model_seize_L206 G6 (gi G 81 66) (gi G 81 66)
      else
        f_Model_seize_L207 G6 (gi G 81 66) (gi G6 81 0) (gi G 81 66)
theorem s_Model_seize_L85 {X : XT} {r : Int × GS} : ∀ {G : GS} {x1 : Int} {x2 : Int} {x3 : Int} {x4 : Int} {x5 : Int}, wr x1 = x1 → wr x2 = x2 → wr x3 = x3 → wr x4 = x4 → wr x5 = x5 → f_Model_seize_L85 G x1 x2 x3 x4 x5 = some r → J X true 8 0 0 M_Model_seize (Ri r.1 r.2) NC 0 0 85 [(0, rf X 81), (1, vi x1), (2, vi x2), (3, vi x3), (4, vi x4), (5, vi x5)] [] G := by
  intro G x1 x2 x3 x4 x5 hx1 hx2 hx3 hx4 hx5 h
  unfold f_Model_seize_L85 at h
  refine j_aloadn (k := 0) (D_Model_seize 43 rfl) rfl rfl ?_
  refine j_getI rfl fa_Model_531 kd_81 lc_81 (by decide) rfl (D_Model_seize 44 rfl) ?_
  refine j_bipush (v := 100) (D_Model_seize 45 rfl) rfl ?_
  refine j_ic_ne (tgt := 96) (D_Model_seize 46 rfl) rfl (wr_gi _ _ _) (wr_lit rfl) (fun c1 => ?_) (fun c1 => ?_)
  · replace h := ite_f h c1
    refine j_aloadn (k := 0) (D_Model_seize 49 rfl) rfl rfl ?_
    refine j_getI rfl fa_Model_531 kd_81 lc_81 (by decide) rfl (D_Model_seize 50 rfl) ?_
    refine j_istore (L' := [(6, vi (gi G 81 66)), (0, rf X 81), (1, vi x1), (2, vi x2), (3, vi x3), (4, vi x4), (5, vi x5)]) (D_Model_seize 51 rfl) (wr_gi _ _ _) (by decide) rfl ?_
    refine j_aloadn (k := 1) (D_Model_seize 52 rfl) rfl rfl ?_
    refine j_dup (D_Model_seize 53 rfl) rfl ?_
    refine j_getI rfl fa_Model_531 kd_81 lc_81 (by decide) rfl (D_Model_seize 54 rfl) ?_
    refine j_iconst (v := 1) (D_Model_seize 55 rfl) rfl ?_
    refine j_iadd (D_Model_seize 56 rfl) ?_
    refine j_putI rfl fa_Model_531 kd_81 lc_81 (by decide) rfl (D_Model_seize 57 rfl) ?_
    refine j_gen (fun G1 e1 => ?_)
    replace h := wG_at h e1
    refine j_aloadn (k := 1) (D_Model_seize 58 rfl) rfl rfl ?_
    refine j_getR rfl fa_Model_139 kd_81 lc_81 (by decide) rfl fx_81_67 (by decide) (D_Model_seize 59 rfl) ?_
    refine j_iload (k := 0) (D_Model_seize 60 rfl) rfl ?_
    refine j_iloadn (k := 2) (D_Model_seize 61 rfl) rfl rfl ?_
    have g1 := gd_c h
    replace h := gd_s h
    refine j_iast (NI := 100) (D_Model_seize 62 rfl) kd_123 lc_123 (wr_gi _ _ _) rfl g1.1 g1.2 ?_
    refine j_gen (fun G2 e2 => ?_)
    replace h := wG_at h e2
    refine j_aloadn (k := 1) (D_Model_seize 63 rfl) rfl rfl ?_
    refine j_getR rfl fa_Model_142 kd_81 lc_81 (by decide) rfl fx_81_68 (by decide) (D_Model_seize 64 rfl) ?_
    refine j_iload (k := 0) (D_Model_seize 65 rfl) rfl ?_
    refine j_iloadn (k := 3) (D_Model_seize 66 rfl) rfl rfl ?_
    have g2 := gd_c h
    replace h := gd_s h
    refine j_iast (NI := 100) (D_Model_seize 67 rfl) kd_124 lc_124 (wr_gi _ _ _) rfl g2.1 g2.2 ?_
    refine j_gen (fun G3 e3 => ?_)
    replace h := wG_at h e3
    refine j_aloadn (k := 1) (D_Model_seize 68 rfl) rfl rfl ?_
    refine j_getR rfl fa_Model_145 kd_81 lc_81 (by decide) rfl fx_81_69 (by decide) (D_Model_seize 69 rfl) ?_
    refine j_iload (k := 0) (D_Model_seize 70 rfl) rfl ?_
    refine j_iloadn (k := 4) (D_Model_seize 71 rfl) rfl rfl ?_
    have g3 := gd_c h
    replace h := gd_s h
    refine j_iast (NI := 100) (D_Model_seize 72 rfl) kd_125 lc_125 (wr_gi _ _ _) rfl g3.1 g3.2 ?_
    refine j_gen (fun G4 e4 => ?_)
    replace h := wG_at h e4
    refine j_aloadn (k := 1) (D_Model_seize 73 rfl) rfl rfl ?_
    refine j_getR rfl fa_Model_148 kd_81 lc_81 (by decide) rfl fx_81_70 (by decide) (D_Model_seize 74 rfl) ?_
    refine j_iload (k := 0) (D_Model_seize 75 rfl) rfl ?_
    refine j_aloadn (k := 1) (D_Model_seize 76 rfl) rfl rfl ?_
    refine j_getI rfl fa_Model_192 kd_81 lc_81 (by decide) rfl (D_Model_seize 77 rfl) ?_
    have g4 := gd_c h
    replace h := gd_s h
    refine j_iast (NI := 100) (D_Model_seize 78 rfl) kd_126 lc_126 (wr_gi _ _ _) rfl g4.1 g4.2 ?_
    refine j_gen (fun G5 e5 => ?_)
    replace h := wG_at h e5
    refine j_aloadn (k := 1) (D_Model_seize 79 rfl) rfl rfl ?_
    refine j_getR rfl fa_Model_151 kd_81 lc_81 (by decide) rfl fx_81_71 (by decide) (D_Model_seize 80 rfl) ?_
    refine j_iload (k := 0) (D_Model_seize 81 rfl) rfl ?_
    refine j_iload (k := 5) (D_Model_seize 82 rfl) rfl ?_
    have g5 := gd_c h
    replace h := gd_s h
    refine j_iast (NI := 100) (D_Model_seize 83 rfl) kd_127 lc_127 (wr_gi _ _ _) rfl g5.1 g5.2 ?_
    refine j_gen (fun G6 e6 => ?_)
    replace h := wG_at h e6
    refine j_aloadn (k := 1) (D_Model_seize 84 rfl) rfl rfl ?_
    refine j_getR rfl fa_Model_154 kd_81 lc_81 (by decide) rfl fx_81_72 (by decide) (D_Model_seize 85 rfl) ?_
    refine j_iload (k := 0) (D_Model_seize 86 rfl) rfl ?_
    refine j_iload (k := 6) (D_Model_seize 87 rfl) rfl ?_
    refine j_iconst (v := (-1)) (D_Model_seize 88 rfl) rfl ?_
    refine j_ic_eq (tgt := 206) (D_Model_seize 89 rfl) rfl (hx5) (wr_lit rfl) (fun c2 => ?_) (fun c2 => ?_)
    · replace h := ite_t h c2
      refine j_loc [1, 0] rfl ?_
      exact s_Model_seize_L206 (wr_gi _ _ _) (wr_gi _ _ _) h
    · replace h := ite_f h c2
      refine j_aloadn (k := 1) (D_Model_seize 90 rfl) rfl rfl ?_
      refine j_getI rfl fa_Model_192 kd_81 lc_81 (by decide) rfl (D_Model_seize 91 rfl) ?_
      refine j_aloadn (k := 1) (D_Model_seize 92 rfl) rfl rfl ?_
      refine j_getR rfl fa_Model_25 kd_81 lc_81 (by decide) rfl fx_81_7 (by decide) (D_Model_seize 93 rfl) ?_
      refine j_iload (k := 6) (D_Model_seize 94 rfl) rfl ?_
      have g6 := gd_c h
      replace h := gd_s h
      refine j_iald (NI := 32) (D_Model_seize 95 rfl) kd_87 lc_87 (hx5) rfl g6.1 g6.2 ?_
      refine j_isub (D_Model_seize 96 rfl) ?_
      refine j_aloadn (k := 1) (D_Model_seize 97 rfl) rfl rfl ?_
      refine j_getR rfl fa_Model_58 kd_81 lc_81 (by decide) rfl fx_81_20 (by decide) (D_Model_seize 98 rfl) ?_
      refine j_aloadn (k := 1) (D_Model_seize 99 rfl) rfl rfl ?_
      refine j_aloadn (k := 1) (D_Model_seize 100 rfl) rfl rfl ?_
      refine j_getR rfl fa_Model_25 kd_81 lc_81 (by decide) rfl fx_81_7 (by decide) (D_Model_seize 101 rfl) ?_
      refine j_iload (k := 6) (D_Model_seize 102 rfl) rfl ?_
      have g7 := gd_c h
      replace h := gd_s h
      refine j_iald (NI := 32) (D_Model_seize 103 rfl) kd_87 lc_87 (hx5) rfl g7.1 g7.2 ?_
      obtain ⟨q1, e7, h⟩ := Option.bind_eq_some_iff.mp h
      refine j_cVi (c_Model_reignOn (wr_gi _ _ _) e7) rfl lk_Model_417 mok_Model_reignOn kd_81 lc_81 rfl (by decide) rfl rfl (Nat.le_of_ble_eq_true rfl) (D_Model_seize 104 rfl) (fun w1 => ?_)
      have g8 := gd_c h
      replace h := gd_s h
      refine j_iald (NI := 4) (D_Model_seize 105 rfl) kd_98 lc_98 (w1) rfl g8.1 g8.2 ?_
      refine j_ic_le (tgt := 206) (D_Model_seize 106 rfl) rfl (rfl) (wr_gi _ _ _) (fun c3 => ?_) (fun c3 => ?_)
      · replace h := ite_t h c3
        refine j_loc [1, 0] rfl ?_
        exact s_Model_seize_L206 (wr_gi _ _ _) (wr_gi _ _ _) h
      · replace h := ite_f h c3
        refine j_aloadn (k := 1) (D_Model_seize 107 rfl) rfl rfl ?_
        refine j_getI rfl fa_Model_192 kd_81 lc_81 (by decide) rfl (D_Model_seize 108 rfl) ?_
        refine j_goto (tgt := 207) (D_Model_seize 109 rfl) rfl ?_
        refine j_loc [1, 0] rfl ?_
        exact s_Model_seize_L207 (wr_gi _ _ _) (wr_gi _ _ _) (wr_gi _ _ _) h
  · replace h := ite_t h c1
    refine j_iconst (v := (-1)) (D_Model_seize 47 rfl) rfl ?_
    exact j_iret (D_Model_seize 48 rfl) rfl (wr_lit rfl) rfl rfl (leafI h (wr_n (wr_lit rfl)))
def f_Model_seize_L59 (G : GS) (x1 : Int) (x2 : Int) (x3 : Int) (x4 : Int) (x5 : Int) : Option (Int × GS) :=
  if x5 = (-1) then
    f_Model_seize_L85 G x1 x2 x3 x4 x5
  else
    (f_Model_isPerson G x5).bind fun q1 =>
    if q1 = 0 then
      some ((-1), G)
    else
      gd (0 ≤ x5 ∧ x5 < 32) <|
      if gi G 87 x5.toNat = (-1) then
        some ((-1), G)
      else
        f_Model_seize_L85 G x1 x2 x3 x4 x5
theorem s_Model_seize_L59 {X : XT} {r : Int × GS} : ∀ {G : GS} {x1 : Int} {x2 : Int} {x3 : Int} {x4 : Int} {x5 : Int}, wr x1 = x1 → wr x2 = x2 → wr x3 = x3 → wr x4 = x4 → wr x5 = x5 → f_Model_seize_L59 G x1 x2 x3 x4 x5 = some r → J X true 8 0 0 M_Model_seize (Ri r.1 r.2) NC 0 0 59 [(0, rf X 81), (1, vi x1), (2, vi x2), (3, vi x3), (4, vi x4), (5, vi x5)] [] G := by
  intro G x1 x2 x3 x4 x5 hx1 hx2 hx3 hx4 hx5 h
  unfold f_Model_seize_L59 at h
  refine j_iload (k := 5) (D_Model_seize 30 rfl) rfl ?_
  refine j_iconst (v := (-1)) (D_Model_seize 31 rfl) rfl ?_
  refine j_ic_eq (tgt := 85) (D_Model_seize 32 rfl) rfl (hx5) (wr_lit rfl) (fun c1 => ?_) (fun c1 => ?_)
  · replace h := ite_t h c1
    refine j_loc [0, 1, 2, 3, 4, 5] rfl ?_
    exact s_Model_seize_L85 (hx1) (hx2) (hx3) (hx4) (hx5) h
  · replace h := ite_f h c1
    refine j_aloadn (k := 0) (D_Model_seize 33 rfl) rfl rfl ?_
    refine j_iload (k := 5) (D_Model_seize 34 rfl) rfl ?_
    obtain ⟨q1, e1, h⟩ := Option.bind_eq_some_iff.mp h
    refine j_cVz (c_Model_isPerson (hx5) e1) rfl lk_Model_198 mok_Model_isPerson kd_81 lc_81 rfl (by decide) rfl rfl (Nat.le_of_ble_eq_true rfl) (D_Model_seize 35 rfl) (fun w1 bw1 => ?_)
    refine j_if_eq (tgt := 94) (D_Model_seize 36 rfl) rfl (w1) (fun c2 => ?_) (fun c2 => ?_)
    · replace h := ite_t h c2
      refine j_iconst (v := (-1)) (D_Model_seize 47 rfl) rfl ?_
      exact j_iret (D_Model_seize 48 rfl) rfl (wr_lit rfl) rfl rfl (leafI h (wr_n (wr_lit rfl)))
    · replace h := ite_f h c2
      refine j_aloadn (k := 0) (D_Model_seize 37 rfl) rfl rfl ?_
      refine j_getR rfl fa_Model_25 kd_81 lc_81 (by decide) rfl fx_81_7 (by decide) (D_Model_seize 38 rfl) ?_
      refine j_iload (k := 5) (D_Model_seize 39 rfl) rfl ?_
      have g1 := gd_c h
      replace h := gd_s h
      refine j_iald (NI := 32) (D_Model_seize 40 rfl) kd_87 lc_87 (hx5) rfl g1.1 g1.2 ?_
      refine j_iconst (v := (-1)) (D_Model_seize 41 rfl) rfl ?_
      refine j_ic_eq (tgt := 94) (D_Model_seize 42 rfl) rfl (wr_gi _ _ _) (wr_lit rfl) (fun c3 => ?_) (fun c3 => ?_)
      · replace h := ite_t h c3
        refine j_iconst (v := (-1)) (D_Model_seize 47 rfl) rfl ?_
        exact j_iret (D_Model_seize 48 rfl) rfl (wr_lit rfl) rfl rfl (leafI h (wr_n (wr_lit rfl)))
      · replace h := ite_f h c3
        refine j_loc [0, 1, 2, 3, 4, 5] rfl ?_
        exact s_Model_seize_L85 (hx1) (hx2) (hx3) (hx4) (hx5) h
def f_Model_seize_L21 (G : GS) (x1 : Int) (x2 : Int) (x3 : Int) (x4 : Int) (x5 : Int) : Option (Int × GS) :=
  (f_Model_isIn G x3 0 (gi G 81 0)).bind fun q1 =>
  if q1 = 0 then
    some ((-1), G)
  else
    if x4 = (-1) then
      f_Model_seize_L59 G x1 x2 x3 x4 x5
    else
      (f_Model_isSeizing G x4).bind fun q2 =>
      if q2 = 0 then
        some ((-1), G)
      else
        gd (0 ≤ x4 ∧ x4 < 100) <|
        if gi G 128 x4.toNat = (-1) then
          f_Model_seize_L59 G x1 x2 x3 x4 x5
        else
          some ((-1), G)
theorem s_Model_seize_L21 {X : XT} {r : Int × GS} : ∀ {G : GS} {x1 : Int} {x2 : Int} {x3 : Int} {x4 : Int} {x5 : Int}, wr x1 = x1 → wr x2 = x2 → wr x3 = x3 → wr x4 = x4 → wr x5 = x5 → f_Model_seize_L21 G x1 x2 x3 x4 x5 = some r → J X true 8 0 0 M_Model_seize (Ri r.1 r.2) NC 0 0 21 [(0, rf X 81), (1, vi x1), (2, vi x2), (3, vi x3), (4, vi x4), (5, vi x5)] [] G := by
  intro G x1 x2 x3 x4 x5 hx1 hx2 hx3 hx4 hx5 h
  unfold f_Model_seize_L21 at h
  refine j_iloadn (k := 3) (D_Model_seize 11 rfl) rfl rfl ?_
  refine j_iconst (v := 0) (D_Model_seize 12 rfl) rfl ?_
  refine j_aloadn (k := 0) (D_Model_seize 13 rfl) rfl rfl ?_
  refine j_getI rfl fa_Model_192 kd_81 lc_81 (by decide) rfl (D_Model_seize 14 rfl) ?_
  obtain ⟨q1, e1, h⟩ := Option.bind_eq_some_iff.mp h
  refine j_cSz (c_Model_isIn (hx3) (wr_lit rfl) (wr_gi _ _ _) e1) rfl lk_Model_188 sok_Model_isIn (by decide) rfl rfl (Nat.le_of_ble_eq_true rfl) (D_Model_seize 15 rfl) (fun w1 bw1 => ?_)
  refine j_if_eq (tgt := 94) (D_Model_seize 16 rfl) rfl (w1) (fun c1 => ?_) (fun c1 => ?_)
  · replace h := ite_t h c1
    refine j_iconst (v := (-1)) (D_Model_seize 47 rfl) rfl ?_
    exact j_iret (D_Model_seize 48 rfl) rfl (wr_lit rfl) rfl rfl (leafI h (wr_n (wr_lit rfl)))
  · replace h := ite_f h c1
    refine j_iload (k := 4) (D_Model_seize 17 rfl) rfl ?_
    refine j_iconst (v := (-1)) (D_Model_seize 18 rfl) rfl ?_
    refine j_ic_eq (tgt := 59) (D_Model_seize 19 rfl) rfl (hx4) (wr_lit rfl) (fun c2 => ?_) (fun c2 => ?_)
    · replace h := ite_t h c2
      refine j_loc [0, 1, 2, 3, 4, 5] rfl ?_
      exact s_Model_seize_L59 (hx1) (hx2) (hx3) (hx4) (hx5) h
    · replace h := ite_f h c2
      refine j_aloadn (k := 0) (D_Model_seize 20 rfl) rfl rfl ?_
      refine j_iload (k := 4) (D_Model_seize 21 rfl) rfl ?_
      obtain ⟨q2, e2, h⟩ := Option.bind_eq_some_iff.mp h
      refine j_cVz (c_Model_isSeizing (hx4) e2) rfl lk_Model_534 mok_Model_isSeizing kd_81 lc_81 rfl (by decide) rfl rfl (Nat.le_of_ble_eq_true rfl) (D_Model_seize 22 rfl) (fun w2 bw2 => ?_)
      refine j_if_eq (tgt := 94) (D_Model_seize 23 rfl) rfl (w2) (fun c3 => ?_) (fun c3 => ?_)
      · replace h := ite_t h c3
        refine j_iconst (v := (-1)) (D_Model_seize 47 rfl) rfl ?_
        exact j_iret (D_Model_seize 48 rfl) rfl (wr_lit rfl) rfl rfl (leafI h (wr_n (wr_lit rfl)))
      · replace h := ite_f h c3
        refine j_aloadn (k := 0) (D_Model_seize 24 rfl) rfl rfl ?_
        refine j_getR rfl fa_Model_154 kd_81 lc_81 (by decide) rfl fx_81_72 (by decide) (D_Model_seize 25 rfl) ?_
        refine j_iload (k := 4) (D_Model_seize 26 rfl) rfl ?_
        have g1 := gd_c h
        replace h := gd_s h
        refine j_iald (NI := 100) (D_Model_seize 27 rfl) kd_128 lc_128 (hx4) rfl g1.1 g1.2 ?_
        refine j_iconst (v := (-1)) (D_Model_seize 28 rfl) rfl ?_
        refine j_ic_ne (tgt := 94) (D_Model_seize 29 rfl) rfl (wr_gi _ _ _) (wr_lit rfl) (fun c4 => ?_) (fun c4 => ?_)
        · replace h := ite_f h c4
          refine j_iconst (v := (-1)) (D_Model_seize 47 rfl) rfl ?_
          exact j_iret (D_Model_seize 48 rfl) rfl (wr_lit rfl) rfl rfl (leafI h (wr_n (wr_lit rfl)))
        · replace h := ite_t h c4
          refine j_loc [0, 1, 2, 3, 4, 5] rfl ?_
          exact s_Model_seize_L59 (hx1) (hx2) (hx3) (hx4) (hx5) h
def f_Model_seize (G : GS) (a1 : Int) (a2 : Int) (a3 : Int) (a4 : Int) (a5 : Int) : Option (Int × GS) :=
  (f_Model_isLand G a1).bind fun q1 =>
  if q1 = 0 then
    some ((-1), G)
  else
    if a2 = (-1) then
      f_Model_seize_L21 G a1 a2 a3 a4 a5
    else
      (f_Model_isPerson G a2).bind fun q2 =>
      if q2 = 0 then
        some ((-1), G)
      else
        f_Model_seize_L21 G a1 a2 a3 a4 a5
theorem c_Model_seize {X : XT} {G : GS} {a1 : Int} {a2 : Int} {a3 : Int} {a4 : Int} {a5 : Int} {r : Int × GS} (ha1 : wr a1 = a1) (ha2 : wr a2 = a2) (ha3 : wr a3 = a3) (ha4 : wr a4 = a4) (ha5 : wr a5 = a5) (h : f_Model_seize G a1 a2 a3 a4 a5 = some r) : Call X true 8 0 0 M_Model_seize [rf X 81, vi a1, vi a2, vi a3, vi a4, vi a5] NC G (Ri r.1 r.2) := by
  refine Call_of_J cw_Model_seize (by decide +kernel) (Nat.le_of_ble_eq_true rfl) ?_
  unfold f_Model_seize at h
  show J X true 8 0 0 M_Model_seize (Ri r.1 r.2) NC 0 0 0 [(0, rf X 81), (1, vi a1), (2, vi a2), (3, vi a3), (4, vi a4), (5, vi a5)] [] G
  refine j_aloadn (k := 0) (D_Model_seize 0 rfl) rfl rfl ?_
  refine j_iloadn (k := 1) (D_Model_seize 1 rfl) rfl rfl ?_
  obtain ⟨q1, e1, h⟩ := Option.bind_eq_some_iff.mp h
  refine j_cVz (c_Model_isLand (ha1) e1) rfl lk_Model_219 mok_Model_isLand kd_81 lc_81 rfl (by decide) rfl rfl (Nat.le_of_ble_eq_true rfl) (D_Model_seize 2 rfl) (fun w1 bw1 => ?_)
  refine j_if_eq (tgt := 94) (D_Model_seize 3 rfl) rfl (w1) (fun c1 => ?_) (fun c1 => ?_)
  · replace h := ite_t h c1
    refine j_iconst (v := (-1)) (D_Model_seize 47 rfl) rfl ?_
    exact j_iret (D_Model_seize 48 rfl) rfl (wr_lit rfl) rfl rfl (leafI h (wr_n (wr_lit rfl)))
  · replace h := ite_f h c1
    refine j_iloadn (k := 2) (D_Model_seize 4 rfl) rfl rfl ?_
    refine j_iconst (v := (-1)) (D_Model_seize 5 rfl) rfl ?_
    refine j_ic_eq (tgt := 21) (D_Model_seize 6 rfl) rfl (ha2) (wr_lit rfl) (fun c2 => ?_) (fun c2 => ?_)
    · replace h := ite_t h c2
      refine j_loc [0, 1, 2, 3, 4, 5] rfl ?_
      exact s_Model_seize_L21 (ha1) (ha2) (ha3) (ha4) (ha5) h
    · replace h := ite_f h c2
      refine j_aloadn (k := 0) (D_Model_seize 7 rfl) rfl rfl ?_
      refine j_iloadn (k := 2) (D_Model_seize 8 rfl) rfl rfl ?_
      obtain ⟨q2, e2, h⟩ := Option.bind_eq_some_iff.mp h
      refine j_cVz (c_Model_isPerson (ha2) e2) rfl lk_Model_198 mok_Model_isPerson kd_81 lc_81 rfl (by decide) rfl rfl (Nat.le_of_ble_eq_true rfl) (D_Model_seize 9 rfl) (fun w2 bw2 => ?_)
      refine j_if_eq (tgt := 94) (D_Model_seize 10 rfl) rfl (w2) (fun c3 => ?_) (fun c3 => ?_)
      · replace h := ite_t h c3
        refine j_iconst (v := (-1)) (D_Model_seize 47 rfl) rfl ?_
        exact j_iret (D_Model_seize 48 rfl) rfl (wr_lit rfl) rfl rfl (leafI h (wr_n (wr_lit rfl)))
      · replace h := ite_f h c3
        refine j_loc [0, 1, 2, 3, 4, 5] rfl ?_
        exact s_Model_seize_L21 (ha1) (ha2) (ha3) (ha4) (ha5) h
abbrev M_Seizings_undo : MI := (⟨"InquestHall$Seizings", "undo", "(II)I"⟩, prog_11_method_5_code, 6, (some .int))
theorem cw_Seizings_undo : Cond.code M_Seizings_undo.1 M_Seizings_undo.2.1 M_Seizings_undo.2.2.1 M_Seizings_undo.2.2.2 ∈ TS := mTS (List.mem_of_getElem? (i := 1136) (by decide +kernel)) (by decide +kernel)
def tb_Seizings_undo : List (Nat × Instr × Nat) := [(0, .aload_n 0, 1), (1, .getfield 27, 3), (4, .iload_n 1, 1), (5, .iload_n 2, 1), (6, .iastore, 1), (7, .iconst 1, 1), (8, .istore_n 3, 1), (9, .iload_n 1, 1), (10, .iconst 1, 1), (11, .iadd, 1), (12, .istore 4, 2), (14, .iload 4, 2), (16, .aload_n 0, 1), (17, .getfield 30, 3), (20, .if_icmp .ge 57, 3), (23, .aload_n 0, 1), (24, .getfield 24, 3), (27, .iload 4, 2), (29, .iaload, 1), (30, .istore 5, 2), (32, .aload_n 0, 1), (33, .getfield 27, 3), (36, .iload 4, 2), (38, .iaload, 1), (39, .iconst (-1), 1), (40, .if_icmp .ne 31, 3), (43, .iload 5, 2), (45, .iconst (-1), 1), (46, .if_icmp .eq 25, 3), (49, .aload_n 0, 1), (50, .getfield 27, 3), (53, .iload 5, 2), (55, .iaload, 1), (56, .iconst (-1), 1), (57, .if_icmp .eq 14, 3), (60, .aload_n 0, 1), (61, .getfield 27, 3), (64, .iload 4, 2), (66, .iload_n 2, 1), (67, .iastore, 1), (68, .iinc 3 1, 3), (71, .iinc 4 1, 3), (74, .goto (-60), 3), (77, .iload_n 3, 1), (78, .ireturn, 1)]
theorem D_Seizings_undo (i : Nat) {pc len : Nat} {ins : Instr} (hi : tb_Seizings_undo[i]? = some (pc, ins, len)) : decode M_Seizings_undo.2.1 pc = .ok (ins, len) := dec_of (by decide +kernel) i hi
def f_Seizings_undo_L71 (k14 : GS → Int → Int → Int → Option (Int × GS)) (G : GS) (x2 : Int) (x3 : Int) (x4 : Int) : Option (Int × GS) :=
  k14 G x2 x3 (wr (x4 + 1))
theorem s_Seizings_undo_L71 {X : XT} {r : Int × GS} {k14 : GS → Int → Int → Int → Option (Int × GS)} (hk14 : ∀ {G : GS} {x2 : Int} {x3 : Int} {x4 : Int} , wr x2 = x2 → wr x3 = x3 → wr x4 = x4 → k14 G x2 x3 x4 = some r → J X true 6 0 0 M_Seizings_undo (Ri r.1 r.2) NC 0 0 14 [(0, rf X 38), (2, vi x2), (3, vi x3), (4, vi x4)] [] G) : ∀ {G : GS} {x2 : Int} {x3 : Int} {x4 : Int}, wr x2 = x2 → wr x3 = x3 → wr x4 = x4 → f_Seizings_undo_L71 k14 G x2 x3 x4 = some r → J X true 6 0 0 M_Seizings_undo (Ri r.1 r.2) NC 0 0 71 [(0, rf X 38), (2, vi x2), (3, vi x3), (4, vi x4)] [] G := by
  intro G x2 x3 x4 hx2 hx3 hx4 h
  unfold f_Seizings_undo_L71 at h
  refine j_iinc (k := 3) (L' := [(4, vi (wr (x4 + 1))), (0, rf X 38), (2, vi x2), (3, vi x3)]) (D_Seizings_undo 41 rfl) rfl rfl (by decide) rfl ?_
  refine j_goto (tgt := 14) (D_Seizings_undo 42 rfl) rfl ?_
  refine j_loc [1, 2, 3, 0] rfl ?_
  exact hk14 (hx2) (hx3) (wr_wr _) h
def f_Seizings_undo_L14 : Nat → GS → Int → Int → Int → Option (Int × GS)
  | 0, _, _, _, _ => none
  | n + 1, G, x2, x3, x4 =>
    if gi G 38 6 ≤ x4 then
      some (x3, G)
    else
      gd (0 ≤ x4 ∧ x4 < 100) <|
      gd (0 ≤ x4 ∧ x4 < 100) <|
      if gi G 44 x4.toNat = (-1) then
        if gi G 43 x4.toNat = (-1) then
          f_Seizings_undo_L71 (f_Seizings_undo_L14 n) G x2 x3 x4
        else
          gd (0 ≤ gi G 43 x4.toNat ∧ gi G 43 x4.toNat < 100) <|
          if gi G 44 (gi G 43 x4.toNat).toNat = (-1) then
            f_Seizings_undo_L71 (f_Seizings_undo_L14 n) G x2 x3 x4
          else
            gd (0 ≤ x4 ∧ x4 < 100) <|
            wG (si G 44 x4.toNat x2) fun G1 =>
            f_Seizings_undo_L71 (f_Seizings_undo_L14 n) G1 x2 (wr (x3 + 1)) x4
      else
        f_Seizings_undo_L71 (f_Seizings_undo_L14 n) G x2 x3 x4
theorem s_Seizings_undo_L14 {X : XT} {r : Int × GS} : ∀ (n : Nat) {G : GS} {x2 : Int} {x3 : Int} {x4 : Int}, wr x2 = x2 → wr x3 = x3 → wr x4 = x4 → f_Seizings_undo_L14 n G x2 x3 x4 = some r → J X true 6 0 0 M_Seizings_undo (Ri r.1 r.2) NC 0 0 14 [(0, rf X 38), (2, vi x2), (3, vi x3), (4, vi x4)] [] G := by
  intro n
  induction n with
  | zero =>
    intro G x2 x3 x4 hx2 hx3 hx4 h
    exact none_some h
  | succ n ih =>
    intro G x2 x3 x4 hx2 hx3 hx4 h
    rw [f_Seizings_undo_L14] at h
    refine j_iload (k := 3) (D_Seizings_undo 11 rfl) rfl ?_
    refine j_aloadn (k := 0) (D_Seizings_undo 12 rfl) rfl rfl ?_
    refine j_getI rfl fa_Seizings_30 kd_38 lc_38 (by decide) rfl (D_Seizings_undo 13 rfl) ?_
    refine j_ic_ge (tgt := 77) (D_Seizings_undo 14 rfl) rfl (hx4) (wr_gi _ _ _) (fun c1 => ?_) (fun c1 => ?_)
    · replace h := ite_t h c1
      refine j_iloadn (k := 2) (D_Seizings_undo 43 rfl) rfl rfl ?_
      exact j_iret (D_Seizings_undo 44 rfl) rfl (hx3) rfl rfl (leafI h (wr_n (hx3)))
    · replace h := ite_f h c1
      refine j_aloadn (k := 0) (D_Seizings_undo 15 rfl) rfl rfl ?_
      refine j_getR rfl fa_Seizings_24 kd_38 lc_38 (by decide) rfl fx_38_4 (by decide) (D_Seizings_undo 16 rfl) ?_
      refine j_iload (k := 3) (D_Seizings_undo 17 rfl) rfl ?_
      have g1 := gd_c h
      replace h := gd_s h
      refine j_iald (NI := 100) (D_Seizings_undo 18 rfl) kd_43 lc_43 (hx4) rfl g1.1 g1.2 ?_
      refine j_istore (L' := [(5, vi (gi G 43 x4.toNat)), (0, rf X 38), (2, vi x2), (3, vi x3), (4, vi x4)]) (D_Seizings_undo 19 rfl) (wr_gi _ _ _) (by decide) rfl ?_
      refine j_aloadn (k := 1) (D_Seizings_undo 20 rfl) rfl rfl ?_
      refine j_getR rfl fa_Seizings_27 kd_38 lc_38 (by decide) rfl fx_38_5 (by decide) (D_Seizings_undo 21 rfl) ?_
      refine j_iload (k := 4) (D_Seizings_undo 22 rfl) rfl ?_
      have g2 := gd_c h
      replace h := gd_s h
      refine j_iald (NI := 100) (D_Seizings_undo 23 rfl) kd_44 lc_44 (hx4) rfl g2.1 g2.2 ?_
      refine j_iconst (v := (-1)) (D_Seizings_undo 24 rfl) rfl ?_
      refine j_ic_ne (tgt := 71) (D_Seizings_undo 25 rfl) rfl (wr_gi _ _ _) (wr_lit rfl) (fun c2 => ?_) (fun c2 => ?_)
      · replace h := ite_f h c2
        refine j_loc [1, 2, 3, 4] rfl ?_
        exact s_Seizings_undo_L71 ih (hx2) (hx3) (hx4) h
      · replace h := ite_t h c2
        refine j_iload (k := 0) (D_Seizings_undo 26 rfl) rfl ?_
        refine j_iconst (v := (-1)) (D_Seizings_undo 27 rfl) rfl ?_
        refine j_ic_eq (tgt := 71) (D_Seizings_undo 28 rfl) rfl (wr_gi _ _ _) (wr_lit rfl) (fun c3 => ?_) (fun c3 => ?_)
        · replace h := ite_t h c3
          refine j_loc [1, 2, 3, 4] rfl ?_
          exact s_Seizings_undo_L71 ih (hx2) (hx3) (hx4) h
        · replace h := ite_f h c3
          refine j_aloadn (k := 1) (D_Seizings_undo 29 rfl) rfl rfl ?_
          refine j_getR rfl fa_Seizings_27 kd_38 lc_38 (by decide) rfl fx_38_5 (by decide) (D_Seizings_undo 30 rfl) ?_
          refine j_iload (k := 0) (D_Seizings_undo 31 rfl) rfl ?_
          have g3 := gd_c h
          replace h := gd_s h
          refine j_iald (NI := 100) (D_Seizings_undo 32 rfl) kd_44 lc_44 (wr_gi _ _ _) rfl g3.1 g3.2 ?_
          refine j_iconst (v := (-1)) (D_Seizings_undo 33 rfl) rfl ?_
          refine j_ic_eq (tgt := 71) (D_Seizings_undo 34 rfl) rfl (wr_gi _ _ _) (wr_lit rfl) (fun c4 => ?_) (fun c4 => ?_)
          · replace h := ite_t h c4
            refine j_loc [1, 2, 3, 4] rfl ?_
            exact s_Seizings_undo_L71 ih (hx2) (hx3) (hx4) h
          · replace h := ite_f h c4
            refine j_aloadn (k := 1) (D_Seizings_undo 35 rfl) rfl rfl ?_
            refine j_getR rfl fa_Seizings_27 kd_38 lc_38 (by decide) rfl fx_38_5 (by decide) (D_Seizings_undo 36 rfl) ?_
            refine j_iload (k := 4) (D_Seizings_undo 37 rfl) rfl ?_
            refine j_iloadn (k := 2) (D_Seizings_undo 38 rfl) rfl rfl ?_
            have g4 := gd_c h
            replace h := gd_s h
            refine j_iast (NI := 100) (D_Seizings_undo 39 rfl) kd_44 lc_44 (hx4) rfl g4.1 g4.2 ?_
            refine j_gen (fun G1 e1 => ?_)
            replace h := wG_at h e1
            refine j_iinc (k := 3) (L' := [(3, vi (wr (x3 + 1))), (5, vi (gi G 43 x4.toNat)), (0, rf X 38), (2, vi x2), (4, vi x4)]) (D_Seizings_undo 40 rfl) rfl rfl (by decide) rfl ?_
            refine j_loc [2, 3, 0, 4] rfl ?_
            exact s_Seizings_undo_L71 ih (hx2) (wr_wr _) (hx4) h
def f_Seizings_undo (G : GS) (a1 : Int) (a2 : Int) : Option (Int × GS) :=
  gd (0 ≤ a1 ∧ a1 < 100) <|
  wG (si G 44 a1.toNat a2) fun G1 =>
  f_Seizings_undo_L14 FU G1 a2 1 (wr (a1 + 1))
theorem c_Seizings_undo {X : XT} {G : GS} {a1 : Int} {a2 : Int} {r : Int × GS} (ha1 : wr a1 = a1) (ha2 : wr a2 = a2) (h : f_Seizings_undo G a1 a2 = some r) : Call X true 6 0 0 M_Seizings_undo [rf X 38, vi a1, vi a2] NC G (Ri r.1 r.2) := by
  refine Call_of_J cw_Seizings_undo (by decide +kernel) (Nat.le_of_ble_eq_true rfl) ?_
  unfold f_Seizings_undo at h
  show J X true 6 0 0 M_Seizings_undo (Ri r.1 r.2) NC 0 0 0 [(0, rf X 38), (1, vi a1), (2, vi a2)] [] G
  refine j_aloadn (k := 0) (D_Seizings_undo 0 rfl) rfl rfl ?_
  refine j_getR rfl fa_Seizings_27 kd_38 lc_38 (by decide) rfl fx_38_5 (by decide) (D_Seizings_undo 1 rfl) ?_
  refine j_iloadn (k := 1) (D_Seizings_undo 2 rfl) rfl rfl ?_
  refine j_iloadn (k := 2) (D_Seizings_undo 3 rfl) rfl rfl ?_
  have g1 := gd_c h
  replace h := gd_s h
  refine j_iast (NI := 100) (D_Seizings_undo 4 rfl) kd_44 lc_44 (ha1) rfl g1.1 g1.2 ?_
  refine j_gen (fun G1 e1 => ?_)
  replace h := wG_at h e1
  refine j_iconst (v := 1) (D_Seizings_undo 5 rfl) rfl ?_
  refine j_istoren (L' := [(3, vi 1), (0, rf X 38), (1, vi a1), (2, vi a2)]) (D_Seizings_undo 6 rfl) rfl (wr_lit rfl) (by decide) rfl ?_
  refine j_iloadn (k := 2) (D_Seizings_undo 7 rfl) rfl rfl ?_
  refine j_iconst (v := 1) (D_Seizings_undo 8 rfl) rfl ?_
  refine j_iadd (D_Seizings_undo 9 rfl) ?_
  refine j_istore (L' := [(4, vi (wr (a1 + 1))), (3, vi 1), (0, rf X 38), (1, vi a1), (2, vi a2)]) (D_Seizings_undo 10 rfl) (rfl) (by decide) rfl ?_
  refine j_loc [2, 4, 1, 0] rfl ?_
  exact s_Seizings_undo_L14 FU (ha2) (wr_lit rfl) (wr_wr _) h
abbrev M_Hall_traverse : MI := (⟨"InquestHall", "traverse", "(I)I"⟩, prog_1_method_23_code, 3, (some .int))
theorem cw_Hall_traverse : Cond.code M_Hall_traverse.1 M_Hall_traverse.2.1 M_Hall_traverse.2.2.1 M_Hall_traverse.2.2.2 ∈ TS := mTS (List.mem_of_getElem? (i := 1132) (by decide +kernel)) (by decide +kernel)
theorem fa_Hall_288 : FA "InquestHall" 288 9 3 true (.array .int) := ⟨_, _, _, _, ok_Seizings, by decide, mTS (List.mem_of_getElem? (i := 487) (by decide +kernel)) (by decide +kernel), rfl, rfl⟩
theorem fa_Hall_290 : FA "InquestHall" 290 11 7 false .int := ⟨_, _, _, _, ok_Law, by decide, mTS (List.mem_of_getElem? (i := 566) (by decide +kernel)) (by decide +kernel), rfl, rfl⟩
theorem lk_Hall_293 : Cond.methodLink "InquestHall" 293 M_Seizings_undo.1 ∈ TS := mTS (List.mem_of_getElem? (i := 1133) (by decide +kernel)) (by decide +kernel)
theorem mok_Seizings_undo : MOK M_Seizings_undo 2 := ⟨mTS (List.mem_of_getElem? (i := 1134) (by decide +kernel)) (by decide +kernel), mTS (List.mem_of_getElem? (i := 1135) (by decide +kernel)) (by decide +kernel), mTS (List.mem_of_getElem? (i := 136) (by decide +kernel)) (by decide +kernel), cw_Seizings_undo, ⟨by decide, by decide, by decide +kernel⟩, by decide +kernel, by decide⟩
def tb_Hall_traverse : List (Nat × Instr × Nat) := [(0, .aload_n 0, 1), (1, .getfield 74, 3), (4, .iload_n 1, 1), (5, .invokevirtual 278, 3), (8, .ifCond .ne 5, 3), (11, .iconst (-1), 1), (12, .ireturn, 1), (13, .aload_n 0, 1), (14, .getfield 74, 3), (17, .getfield 288, 3), (20, .iload_n 1, 1), (21, .iaload, 1), (22, .istore_n 2, 1), (23, .aload_n 0, 1), (24, .getfield 104, 3), (27, .iload_n 2, 1), (28, .aload_n 0, 1), (29, .iload_n 2, 1), (30, .invokevirtual 185, 3), (33, .getfield 290, 3), (36, .iadd, 1), (37, .if_icmp .le 7, 3), (40, .iconst (-1), 1), (41, .goto 15, 3), (44, .aload_n 0, 1), (45, .getfield 74, 3), (48, .iload_n 1, 1), (49, .aload_n 0, 1), (50, .getfield 104, 3), (53, .invokevirtual 293, 3), (56, .ireturn, 1)]
theorem D_Hall_traverse (i : Nat) {pc len : Nat} {ins : Instr} (hi : tb_Hall_traverse[i]? = some (pc, ins, len)) : decode M_Hall_traverse.2.1 pc = .ok (ins, len) := dec_of (by decide +kernel) i hi
def f_Hall_traverse (G : GS) (a1 : Int) : Option (Int × GS) :=
  (f_Seizings_stands G a1).bind fun q1 =>
  if q1 = 0 then
    some ((-1), G)
  else
    gd (0 ≤ a1 ∧ a1 < 100) <|
    (f_Hall_lawAt G (gi G 42 a1.toNat)).bind fun q2 =>
    if gi G 0 14 ≤ wr ((gi G 42 a1.toNat) + (gi G q2 7)) then
      (f_Seizings_undo G a1 (gi G 0 14)).bind fun q3 =>
      some (q3.1, q3.2)
    else
      some ((-1), G)
theorem c_Hall_traverse {X : XT} {G : GS} {a1 : Int} {r : Int × GS} (ha1 : wr a1 = a1) (h : f_Hall_traverse G a1 = some r) : Call X true 8 0 0 M_Hall_traverse [rf X 0, vi a1] NC G (Ri r.1 r.2) := by
  refine Call_of_J cw_Hall_traverse (by decide +kernel) (Nat.le_of_ble_eq_true rfl) ?_
  unfold f_Hall_traverse at h
  show J X true 8 0 0 M_Hall_traverse (Ri r.1 r.2) NC 0 0 0 [(0, rf X 0), (1, vi a1)] [] G
  refine j_aloadn (k := 0) (D_Hall_traverse 0 rfl) rfl rfl ?_
  refine j_getR rfl fa_Hall_74 kd_0 lc_0 (by decide) rfl fx_0_8 (by decide) (D_Hall_traverse 1 rfl) ?_
  refine j_iloadn (k := 1) (D_Hall_traverse 2 rfl) rfl rfl ?_
  obtain ⟨q1, e1, h⟩ := Option.bind_eq_some_iff.mp h
  refine j_cVz (c_Seizings_stands (ha1) e1) rfl lk_Hall_278 mok_Seizings_stands kd_38 lc_38 rfl (by decide) rfl rfl (Nat.le_of_ble_eq_true rfl) (D_Hall_traverse 3 rfl) (fun w1 bw1 => ?_)
  refine j_if_ne (tgt := 13) (D_Hall_traverse 4 rfl) rfl (w1) (fun c1 => ?_) (fun c1 => ?_)
  · replace h := ite_f h c1
    refine j_aloadn (k := 0) (D_Hall_traverse 7 rfl) rfl rfl ?_
    refine j_getR rfl fa_Hall_74 kd_0 lc_0 (by decide) rfl fx_0_8 (by decide) (D_Hall_traverse 8 rfl) ?_
    refine j_getR rfl fa_Hall_288 kd_38 lc_38 (by decide) rfl fx_38_3 (by decide) (D_Hall_traverse 9 rfl) ?_
    refine j_iloadn (k := 1) (D_Hall_traverse 10 rfl) rfl rfl ?_
    have g1 := gd_c h
    replace h := gd_s h
    refine j_iald (NI := 100) (D_Hall_traverse 11 rfl) kd_42 lc_42 (ha1) rfl g1.1 g1.2 ?_
    refine j_istoren (L' := [(2, vi (gi G 42 a1.toNat)), (0, rf X 0), (1, vi a1)]) (D_Hall_traverse 12 rfl) rfl (wr_gi _ _ _) (by decide) rfl ?_
    refine j_aloadn (k := 1) (D_Hall_traverse 13 rfl) rfl rfl ?_
    refine j_getI rfl fa_Hall_104 kd_0 lc_0 (by decide) rfl (D_Hall_traverse 14 rfl) ?_
    refine j_iloadn (k := 0) (D_Hall_traverse 15 rfl) rfl rfl ?_
    refine j_aloadn (k := 1) (D_Hall_traverse 16 rfl) rfl rfl ?_
    refine j_iloadn (k := 0) (D_Hall_traverse 17 rfl) rfl rfl ?_
    obtain ⟨q2, e2, h⟩ := Option.bind_eq_some_iff.mp h
    refine j_cVr (c_Hall_lawAt (wr_gi _ _ _) e2) rfl lk_Hall_185 mok_Hall_lawAt kd_0 lc_0 rfl (by decide) rfl rfl (Nat.le_of_ble_eq_true rfl) (D_Hall_traverse 18 rfl) (fun w2 => ?_)
    refine j_getI rfl fa_Hall_290 (law_kd w2).1 (law_kd w2).2.1 (by decide) rfl (D_Hall_traverse 19 rfl) ?_
    refine j_iadd (D_Hall_traverse 20 rfl) ?_
    refine j_ic_le (tgt := 44) (D_Hall_traverse 21 rfl) rfl (wr_gi _ _ _) (rfl) (fun c2 => ?_) (fun c2 => ?_)
    · replace h := ite_t h c2
      refine j_aloadn (k := 1) (D_Hall_traverse 24 rfl) rfl rfl ?_
      refine j_getR rfl fa_Hall_74 kd_0 lc_0 (by decide) rfl fx_0_8 (by decide) (D_Hall_traverse 25 rfl) ?_
      refine j_iloadn (k := 2) (D_Hall_traverse 26 rfl) rfl rfl ?_
      refine j_aloadn (k := 1) (D_Hall_traverse 27 rfl) rfl rfl ?_
      refine j_getI rfl fa_Hall_104 kd_0 lc_0 (by decide) rfl (D_Hall_traverse 28 rfl) ?_
      obtain ⟨q3, e3, h⟩ := Option.bind_eq_some_iff.mp h
      refine j_cVi (c_Seizings_undo (ha1) (wr_gi _ _ _) e3) rfl lk_Hall_293 mok_Seizings_undo kd_38 lc_38 rfl (by decide) rfl rfl (Nat.le_of_ble_eq_true rfl) (D_Hall_traverse 29 rfl) (fun w3 => ?_)
      exact j_iret (D_Hall_traverse 30 rfl) rfl (w3) rfl rfl (leafI h (wr_n (w3)))
    · replace h := ite_f h c2
      refine j_iconst (v := (-1)) (D_Hall_traverse 22 rfl) rfl ?_
      refine j_goto (tgt := 56) (D_Hall_traverse 23 rfl) rfl ?_
      exact j_iret (D_Hall_traverse 30 rfl) rfl (wr_lit rfl) rfl rfl (leafI h (wr_n (wr_lit rfl)))
  · replace h := ite_t h c1
    refine j_iconst (v := (-1)) (D_Hall_traverse 5 rfl) rfl ?_
    exact j_iret (D_Hall_traverse 6 rfl) rfl (wr_lit rfl) rfl rfl (leafI h (wr_n (wr_lit rfl)))
abbrev M_Model_traverse : MI := (⟨"InquestHallModel", "traverse", "(I)I"⟩, prog_14_method_82_code, 4, (some .int))
theorem cw_Model_traverse : Cond.code M_Model_traverse.1 M_Model_traverse.2.1 M_Model_traverse.2.2.1 M_Model_traverse.2.2.2 ∈ TS := mTS (List.mem_of_getElem? (i := 1924) (by decide +kernel)) (by decide +kernel)
theorem fa_Model_157 : FA "InquestHallModel" 157 12 73 true (.array .boolean) := ⟨_, _, _, _, ok_Model, by decide, mTS (List.mem_of_getElem? (i := 1374) (by decide +kernel)) (by decide +kernel), rfl, rfl⟩
theorem fx_81_73 {G : GS} (w : WF true NC G) : G.2.2 81 73 = 129 := w.2 rfl (81, 73, 129) (by decide)
theorem kd_129 : kd 129 = (3, 100) := rfl
theorem lc_129 : 129 < NC := by decide
def tb_Model_traverse : List (Nat × Instr × Nat) := [(0, .aload_n 0, 1), (1, .iload_n 1, 1), (2, .invokevirtual 534, 3), (5, .ifCond .eq 42, 3), (8, .aload_n 0, 1), (9, .getfield 154, 3), (12, .iload_n 1, 1), (13, .iaload, 1), (14, .iconst (-1), 1), (15, .if_icmp .ne 32, 3), (18, .aload_n 0, 1), (19, .getfield 192, 3), (22, .aload_n 0, 1), (23, .getfield 148, 3), (26, .iload_n 1, 1), (27, .iaload, 1), (28, .isub, 1), (29, .aload_n 0, 1), (30, .getfield 61, 3), (33, .aload_n 0, 1), (34, .aload_n 0, 1), (35, .getfield 148, 3), (38, .iload_n 1, 1), (39, .iaload, 1), (40, .invokevirtual 417, 3), (43, .iaload, 1), (44, .if_icmp .le 5, 3), (47, .iconst (-1), 1), (48, .ireturn, 1), (49, .iconst 1, 1), (50, .istore_n 2, 1), (51, .aload_n 0, 1), (52, .getfield 154, 3), (55, .iload_n 1, 1), (56, .aload_n 0, 1), (57, .getfield 192, 3), (60, .iastore, 1), (61, .iconst 0, 1), (62, .istore_n 3, 1), (63, .iload_n 3, 1), (64, .aload_n 0, 1), (65, .getfield 531, 3), (68, .if_icmp .ge 25, 3), (71, .aload_n 0, 1), (72, .getfield 157, 3), (75, .iload_n 3, 1), (76, .iload_n 3, 1), (77, .iload_n 1, 1), (78, .if_icmp .ne 7, 3), (81, .iconst 1, 1), (82, .goto 4, 3), (85, .iconst 0, 1), (86, .bastore, 1), (87, .iinc 3 1, 3), (90, .goto (-27), 3), (93, .iload_n 1, 1), (94, .iconst 1, 1), (95, .iadd, 1), (96, .istore_n 3, 1), (97, .iload_n 3, 1), (98, .aload_n 0, 1), (99, .getfield 531, 3), (102, .if_icmp .ge 79, 3), (105, .aload_n 0, 1), (106, .getfield 157, 3), (109, .iload_n 3, 1), (110, .aload_n 0, 1), (111, .getfield 151, 3), (114, .iload_n 3, 1), (115, .iaload, 1), (116, .iconst (-1), 1), (117, .if_icmp .eq 21, 3), (120, .aload_n 0, 1), (121, .getfield 157, 3), (124, .aload_n 0, 1), (125, .getfield 151, 3), (128, .iload_n 3, 1), (129, .iaload, 1), (130, .baload, 1), (131, .ifCond .eq 7, 3), (134, .iconst 1, 1), (135, .goto 4, 3), (138, .iconst 0, 1), (139, .bastore, 1), (140, .aload_n 0, 1), (141, .getfield 157, 3), (144, .iload_n 3, 1), (145, .baload, 1), (146, .ifCond .eq 29, 3), (149, .aload_n 0, 1), (150, .getfield 154, 3), (153, .iload_n 3, 1), (154, .iaload, 1), (155, .iconst (-1), 1), (156, .if_icmp .eq 6, 3), (159, .goto 16, 3), (162, .aload_n 0, 1), (163, .getfield 154, 3), (166, .iload_n 3, 1), (167, .aload_n 0, 1), (168, .getfield 192, 3), (171, .iastore, 1), (172, .iinc 2 1, 3), (175, .iinc 3 1, 3), (178, .goto (-81), 3), (181, .iload_n 2, 1), (182, .ireturn, 1)]
theorem D_Model_traverse (i : Nat) {pc len : Nat} {ins : Instr} (hi : tb_Model_traverse[i]? = some (pc, ins, len)) : decode M_Model_traverse.2.1 pc = .ok (ins, len) := dec_of (by decide +kernel) i hi
def f_Model_traverse_L175 (k97 : GS → Int → Int → Option (Int × GS)) (G : GS) (x2 : Int) (x3 : Int) : Option (Int × GS) :=
  k97 G x2 (wr (x3 + 1))
theorem s_Model_traverse_L175 {X : XT} {r : Int × GS} {k97 : GS → Int → Int → Option (Int × GS)} (hk97 : ∀ {G : GS} {x2 : Int} {x3 : Int} , wr x2 = x2 → wr x3 = x3 → k97 G x2 x3 = some r → J X true 8 0 0 M_Model_traverse (Ri r.1 r.2) NC 0 0 97 [(0, rf X 81), (2, vi x2), (3, vi x3)] [] G) : ∀ {G : GS} {x2 : Int} {x3 : Int}, wr x2 = x2 → wr x3 = x3 → f_Model_traverse_L175 k97 G x2 x3 = some r → J X true 8 0 0 M_Model_traverse (Ri r.1 r.2) NC 0 0 175 [(0, rf X 81), (2, vi x2), (3, vi x3)] [] G := by
  intro G x2 x3 hx2 hx3 h
  unfold f_Model_traverse_L175 at h
  refine j_iinc (k := 2) (L' := [(3, vi (wr (x3 + 1))), (0, rf X 81), (2, vi x2)]) (D_Model_traverse 103 rfl) rfl rfl (by decide) rfl ?_
  refine j_goto (tgt := 97) (D_Model_traverse 104 rfl) rfl ?_
  refine j_loc [1, 2, 0] rfl ?_
  exact hk97 (hx2) (wr_wr _) h
def f_Model_traverse_L139 (k97 : GS → Int → Int → Option (Int × GS)) (G : GS) (x2 : Int) (x3 : Int) (s0 : Int) (s1 : Int) : Option (Int × GS) :=
  gd (0 ≤ s1 ∧ s1 < 100) <|
  gd (s0 = 0 ∨ s0 = 1) <|
  wG (si G 129 s1.toNat s0) fun G1 =>
  gd (0 ≤ x3 ∧ x3 < 100) <|
  if gi G1 129 x3.toNat = 0 then
    f_Model_traverse_L175 k97 G1 x2 x3
  else
    gd (0 ≤ x3 ∧ x3 < 100) <|
    if gi G1 128 x3.toNat = (-1) then
      gd (0 ≤ x3 ∧ x3 < 100) <|
      wG (si G1 128 x3.toNat (gi G1 81 0)) fun G2 =>
      f_Model_traverse_L175 k97 G2 (wr (x2 + 1)) x3
    else
      f_Model_traverse_L175 k97 G1 x2 x3
theorem s_Model_traverse_L139 {X : XT} {r : Int × GS} {k97 : GS → Int → Int → Option (Int × GS)} (hk97 : ∀ {G : GS} {x2 : Int} {x3 : Int} , wr x2 = x2 → wr x3 = x3 → k97 G x2 x3 = some r → J X true 8 0 0 M_Model_traverse (Ri r.1 r.2) NC 0 0 97 [(0, rf X 81), (2, vi x2), (3, vi x3)] [] G) : ∀ {G : GS} {x2 : Int} {x3 : Int} {s0 : Int} {s1 : Int}, wr x2 = x2 → wr x3 = x3 → wr s0 = s0 → wr s1 = s1 → f_Model_traverse_L139 k97 G x2 x3 s0 s1 = some r → J X true 8 0 0 M_Model_traverse (Ri r.1 r.2) NC 0 0 139 [(0, rf X 81), (2, vi x2), (3, vi x3)] [vi s0, vi s1, rf X 129] G := by
  intro G x2 x3 s0 s1 hx2 hx3 hs0 hs1 h
  unfold f_Model_traverse_L139 at h
  have g1 := gd_c h
  replace h := gd_s h
  have g2 := gd_c h
  replace h := gd_s h
  refine j_zast (NI := 100) (D_Model_traverse 83 rfl) kd_129 lc_129 (hs1) rfl g1.1 g1.2 (hs0) g2 ?_
  refine j_gen (fun G1 e1 => ?_)
  replace h := wG_at h e1
  refine j_aloadn (k := 0) (D_Model_traverse 84 rfl) rfl rfl ?_
  refine j_getR rfl fa_Model_157 kd_81 lc_81 (by decide) rfl fx_81_73 (by decide) (D_Model_traverse 85 rfl) ?_
  refine j_iloadn (k := 2) (D_Model_traverse 86 rfl) rfl rfl ?_
  have g3 := gd_c h
  replace h := gd_s h
  refine j_zald (NI := 100) (D_Model_traverse 87 rfl) kd_129 lc_129 (hx3) rfl g3.1 g3.2 ?_
  refine j_if_eq (tgt := 175) (D_Model_traverse 88 rfl) rfl (wr_gi _ _ _) (fun c1 => ?_) (fun c1 => ?_)
  · replace h := ite_t h c1
    refine j_loc [0, 1, 2] rfl ?_
    exact s_Model_traverse_L175 hk97 (hx2) (hx3) h
  · replace h := ite_f h c1
    refine j_aloadn (k := 0) (D_Model_traverse 89 rfl) rfl rfl ?_
    refine j_getR rfl fa_Model_154 kd_81 lc_81 (by decide) rfl fx_81_72 (by decide) (D_Model_traverse 90 rfl) ?_
    refine j_iloadn (k := 2) (D_Model_traverse 91 rfl) rfl rfl ?_
    have g4 := gd_c h
    replace h := gd_s h
    refine j_iald (NI := 100) (D_Model_traverse 92 rfl) kd_128 lc_128 (hx3) rfl g4.1 g4.2 ?_
    refine j_iconst (v := (-1)) (D_Model_traverse 93 rfl) rfl ?_
    refine j_ic_eq (tgt := 162) (D_Model_traverse 94 rfl) rfl (wr_gi _ _ _) (wr_lit rfl) (fun c2 => ?_) (fun c2 => ?_)
    · replace h := ite_t h c2
      refine j_aloadn (k := 0) (D_Model_traverse 96 rfl) rfl rfl ?_
      refine j_getR rfl fa_Model_154 kd_81 lc_81 (by decide) rfl fx_81_72 (by decide) (D_Model_traverse 97 rfl) ?_
      refine j_iloadn (k := 2) (D_Model_traverse 98 rfl) rfl rfl ?_
      refine j_aloadn (k := 0) (D_Model_traverse 99 rfl) rfl rfl ?_
      refine j_getI rfl fa_Model_192 kd_81 lc_81 (by decide) rfl (D_Model_traverse 100 rfl) ?_
      have g5 := gd_c h
      replace h := gd_s h
      refine j_iast (NI := 100) (D_Model_traverse 101 rfl) kd_128 lc_128 (hx3) rfl g5.1 g5.2 ?_
      refine j_gen (fun G2 e2 => ?_)
      replace h := wG_at h e2
      refine j_iinc (k := 1) (L' := [(2, vi (wr (x2 + 1))), (0, rf X 81), (3, vi x3)]) (D_Model_traverse 102 rfl) rfl rfl (by decide) rfl ?_
      refine j_loc [1, 0, 2] rfl ?_
      exact s_Model_traverse_L175 hk97 (wr_wr _) (hx3) h
    · replace h := ite_f h c2
      refine j_goto (tgt := 175) (D_Model_traverse 95 rfl) rfl ?_
      refine j_loc [0, 1, 2] rfl ?_
      exact s_Model_traverse_L175 hk97 (hx2) (hx3) h
def f_Model_traverse_L138 (k97 : GS → Int → Int → Option (Int × GS)) (G : GS) (x2 : Int) (x3 : Int) (s0 : Int) : Option (Int × GS) :=
  f_Model_traverse_L139 k97 G x2 x3 0 s0
theorem s_Model_traverse_L138 {X : XT} {r : Int × GS} {k97 : GS → Int → Int → Option (Int × GS)} (hk97 : ∀ {G : GS} {x2 : Int} {x3 : Int} , wr x2 = x2 → wr x3 = x3 → k97 G x2 x3 = some r → J X true 8 0 0 M_Model_traverse (Ri r.1 r.2) NC 0 0 97 [(0, rf X 81), (2, vi x2), (3, vi x3)] [] G) : ∀ {G : GS} {x2 : Int} {x3 : Int} {s0 : Int}, wr x2 = x2 → wr x3 = x3 → wr s0 = s0 → f_Model_traverse_L138 k97 G x2 x3 s0 = some r → J X true 8 0 0 M_Model_traverse (Ri r.1 r.2) NC 0 0 138 [(0, rf X 81), (2, vi x2), (3, vi x3)] [vi s0, rf X 129] G := by
  intro G x2 x3 s0 hx2 hx3 hs0 h
  unfold f_Model_traverse_L138 at h
  refine j_iconst (v := 0) (D_Model_traverse 82 rfl) rfl ?_
  refine j_loc [0, 1, 2] rfl ?_
  exact s_Model_traverse_L139 hk97 (hx2) (hx3) (wr_lit rfl) (hs0) h
def f_Model_traverse_L97 : Nat → GS → Int → Int → Option (Int × GS)
  | 0, _, _, _ => none
  | n + 1, G, x2, x3 =>
    if gi G 81 66 ≤ x3 then
      some (x2, G)
    else
      gd (0 ≤ x3 ∧ x3 < 100) <|
      if gi G 127 x3.toNat = (-1) then
        f_Model_traverse_L138 (f_Model_traverse_L97 n) G x2 x3 x3
      else
        gd (0 ≤ x3 ∧ x3 < 100) <|
        gd (0 ≤ gi G 127 x3.toNat ∧ gi G 127 x3.toNat < 100) <|
        if gi G 129 (gi G 127 x3.toNat).toNat = 0 then
          f_Model_traverse_L138 (f_Model_traverse_L97 n) G x2 x3 x3
        else
          f_Model_traverse_L139 (f_Model_traverse_L97 n) G x2 x3 1 x3
theorem s_Model_traverse_L97 {X : XT} {r : Int × GS} : ∀ (n : Nat) {G : GS} {x2 : Int} {x3 : Int}, wr x2 = x2 → wr x3 = x3 → f_Model_traverse_L97 n G x2 x3 = some r → J X true 8 0 0 M_Model_traverse (Ri r.1 r.2) NC 0 0 97 [(0, rf X 81), (2, vi x2), (3, vi x3)] [] G := by
  intro n
  induction n with
  | zero =>
    intro G x2 x3 hx2 hx3 h
    exact none_some h
  | succ n ih =>
    intro G x2 x3 hx2 hx3 h
    rw [f_Model_traverse_L97] at h
    refine j_iloadn (k := 2) (D_Model_traverse 59 rfl) rfl rfl ?_
    refine j_aloadn (k := 0) (D_Model_traverse 60 rfl) rfl rfl ?_
    refine j_getI rfl fa_Model_531 kd_81 lc_81 (by decide) rfl (D_Model_traverse 61 rfl) ?_
    refine j_ic_ge (tgt := 181) (D_Model_traverse 62 rfl) rfl (hx3) (wr_gi _ _ _) (fun c1 => ?_) (fun c1 => ?_)
    · replace h := ite_t h c1
      refine j_iloadn (k := 1) (D_Model_traverse 105 rfl) rfl rfl ?_
      exact j_iret (D_Model_traverse 106 rfl) rfl (hx2) rfl rfl (leafI h (wr_n (hx2)))
    · replace h := ite_f h c1
      refine j_aloadn (k := 0) (D_Model_traverse 63 rfl) rfl rfl ?_
      refine j_getR rfl fa_Model_157 kd_81 lc_81 (by decide) rfl fx_81_73 (by decide) (D_Model_traverse 64 rfl) ?_
      refine j_iloadn (k := 2) (D_Model_traverse 65 rfl) rfl rfl ?_
      refine j_aloadn (k := 0) (D_Model_traverse 66 rfl) rfl rfl ?_
      refine j_getR rfl fa_Model_151 kd_81 lc_81 (by decide) rfl fx_81_71 (by decide) (D_Model_traverse 67 rfl) ?_
      refine j_iloadn (k := 2) (D_Model_traverse 68 rfl) rfl rfl ?_
      have g1 := gd_c h
      replace h := gd_s h
      refine j_iald (NI := 100) (D_Model_traverse 69 rfl) kd_127 lc_127 (hx3) rfl g1.1 g1.2 ?_
      refine j_iconst (v := (-1)) (D_Model_traverse 70 rfl) rfl ?_
      refine j_ic_eq (tgt := 138) (D_Model_traverse 71 rfl) rfl (wr_gi _ _ _) (wr_lit rfl) (fun c2 => ?_) (fun c2 => ?_)
      · replace h := ite_t h c2
        refine j_loc [0, 1, 2] rfl ?_
        exact s_Model_traverse_L138 ih (hx2) (hx3) (hx3) h
      · replace h := ite_f h c2
        refine j_aloadn (k := 0) (D_Model_traverse 72 rfl) rfl rfl ?_
        refine j_getR rfl fa_Model_157 kd_81 lc_81 (by decide) rfl fx_81_73 (by decide) (D_Model_traverse 73 rfl) ?_
        refine j_aloadn (k := 0) (D_Model_traverse 74 rfl) rfl rfl ?_
        refine j_getR rfl fa_Model_151 kd_81 lc_81 (by decide) rfl fx_81_71 (by decide) (D_Model_traverse 75 rfl) ?_
        refine j_iloadn (k := 2) (D_Model_traverse 76 rfl) rfl rfl ?_
        have g2 := gd_c h
        replace h := gd_s h
        refine j_iald (NI := 100) (D_Model_traverse 77 rfl) kd_127 lc_127 (hx3) rfl g2.1 g2.2 ?_
        have g3 := gd_c h
        replace h := gd_s h
        refine j_zald (NI := 100) (D_Model_traverse 78 rfl) kd_129 lc_129 (wr_gi _ _ _) rfl g3.1 g3.2 ?_
        refine j_if_eq (tgt := 138) (D_Model_traverse 79 rfl) rfl (wr_gi _ _ _) (fun c3 => ?_) (fun c3 => ?_)
        · replace h := ite_t h c3
          refine j_loc [0, 1, 2] rfl ?_
          exact s_Model_traverse_L138 ih (hx2) (hx3) (hx3) h
        · replace h := ite_f h c3
          refine j_iconst (v := 1) (D_Model_traverse 80 rfl) rfl ?_
          refine j_goto (tgt := 139) (D_Model_traverse 81 rfl) rfl ?_
          refine j_loc [0, 1, 2] rfl ?_
          exact s_Model_traverse_L139 ih (hx2) (hx3) (wr_lit rfl) (hx3) h
def f_Model_traverse_L86 (k63 : GS → Int → Int → Int → Option (Int × GS)) (G : GS) (x1 : Int) (x2 : Int) (x3 : Int) (s0 : Int) (s1 : Int) : Option (Int × GS) :=
  gd (0 ≤ s1 ∧ s1 < 100) <|
  gd (s0 = 0 ∨ s0 = 1) <|
  wG (si G 129 s1.toNat s0) fun G1 =>
  k63 G1 x1 x2 (wr (x3 + 1))
theorem s_Model_traverse_L86 {X : XT} {r : Int × GS} {k63 : GS → Int → Int → Int → Option (Int × GS)} (hk63 : ∀ {G : GS} {x1 : Int} {x2 : Int} {x3 : Int} , wr x1 = x1 → wr x2 = x2 → wr x3 = x3 → k63 G x1 x2 x3 = some r → J X true 8 0 0 M_Model_traverse (Ri r.1 r.2) NC 0 0 63 [(0, rf X 81), (1, vi x1), (2, vi x2), (3, vi x3)] [] G) : ∀ {G : GS} {x1 : Int} {x2 : Int} {x3 : Int} {s0 : Int} {s1 : Int}, wr x1 = x1 → wr x2 = x2 → wr x3 = x3 → wr s0 = s0 → wr s1 = s1 → f_Model_traverse_L86 k63 G x1 x2 x3 s0 s1 = some r → J X true 8 0 0 M_Model_traverse (Ri r.1 r.2) NC 0 0 86 [(0, rf X 81), (1, vi x1), (2, vi x2), (3, vi x3)] [vi s0, vi s1, rf X 129] G := by
  intro G x1 x2 x3 s0 s1 hx1 hx2 hx3 hs0 hs1 h
  unfold f_Model_traverse_L86 at h
  have g1 := gd_c h
  replace h := gd_s h
  have g2 := gd_c h
  replace h := gd_s h
  refine j_zast (NI := 100) (D_Model_traverse 52 rfl) kd_129 lc_129 (hs1) rfl g1.1 g1.2 (hs0) g2 ?_
  refine j_gen (fun G1 e1 => ?_)
  replace h := wG_at h e1
  refine j_iinc (k := 3) (L' := [(3, vi (wr (x3 + 1))), (0, rf X 81), (1, vi x1), (2, vi x2)]) (D_Model_traverse 53 rfl) rfl rfl (by decide) rfl ?_
  refine j_goto (tgt := 63) (D_Model_traverse 54 rfl) rfl ?_
  refine j_loc [1, 2, 3, 0] rfl ?_
  exact hk63 (hx1) (hx2) (wr_wr _) h
def f_Model_traverse_L63 : Nat → GS → Int → Int → Int → Option (Int × GS)
  | 0, _, _, _, _ => none
  | n + 1, G, x1, x2, x3 =>
    if gi G 81 66 ≤ x3 then
      f_Model_traverse_L97 FU G x2 (wr (x1 + 1))
    else
      if x3 = x1 then
        f_Model_traverse_L86 (f_Model_traverse_L63 n) G x1 x2 x3 1 x3
      else
        f_Model_traverse_L86 (f_Model_traverse_L63 n) G x1 x2 x3 0 x3
theorem s_Model_traverse_L63 {X : XT} {r : Int × GS} : ∀ (n : Nat) {G : GS} {x1 : Int} {x2 : Int} {x3 : Int}, wr x1 = x1 → wr x2 = x2 → wr x3 = x3 → f_Model_traverse_L63 n G x1 x2 x3 = some r → J X true 8 0 0 M_Model_traverse (Ri r.1 r.2) NC 0 0 63 [(0, rf X 81), (1, vi x1), (2, vi x2), (3, vi x3)] [] G := by
  intro n
  induction n with
  | zero =>
    intro G x1 x2 x3 hx1 hx2 hx3 h
    exact none_some h
  | succ n ih =>
    intro G x1 x2 x3 hx1 hx2 hx3 h
    rw [f_Model_traverse_L63] at h
    refine j_iloadn (k := 3) (D_Model_traverse 39 rfl) rfl rfl ?_
    refine j_aloadn (k := 0) (D_Model_traverse 40 rfl) rfl rfl ?_
    refine j_getI rfl fa_Model_531 kd_81 lc_81 (by decide) rfl (D_Model_traverse 41 rfl) ?_
    refine j_ic_ge (tgt := 93) (D_Model_traverse 42 rfl) rfl (hx3) (wr_gi _ _ _) (fun c1 => ?_) (fun c1 => ?_)
    · replace h := ite_t h c1
      refine j_iloadn (k := 1) (D_Model_traverse 55 rfl) rfl rfl ?_
      refine j_iconst (v := 1) (D_Model_traverse 56 rfl) rfl ?_
      refine j_iadd (D_Model_traverse 57 rfl) ?_
      refine j_istoren (L' := [(3, vi (wr (x1 + 1))), (0, rf X 81), (1, vi x1), (2, vi x2)]) (D_Model_traverse 58 rfl) rfl (rfl) (by decide) rfl ?_
      refine j_loc [1, 3, 0] rfl ?_
      exact s_Model_traverse_L97 FU (hx2) (wr_wr _) h
    · replace h := ite_f h c1
      refine j_aloadn (k := 0) (D_Model_traverse 43 rfl) rfl rfl ?_
      refine j_getR rfl fa_Model_157 kd_81 lc_81 (by decide) rfl fx_81_73 (by decide) (D_Model_traverse 44 rfl) ?_
      refine j_iloadn (k := 3) (D_Model_traverse 45 rfl) rfl rfl ?_
      refine j_iloadn (k := 3) (D_Model_traverse 46 rfl) rfl rfl ?_
      refine j_iloadn (k := 1) (D_Model_traverse 47 rfl) rfl rfl ?_
      refine j_ic_ne (tgt := 85) (D_Model_traverse 48 rfl) rfl (hx3) (hx1) (fun c2 => ?_) (fun c2 => ?_)
      · replace h := ite_f h c2
        refine j_iconst (v := 0) (D_Model_traverse 51 rfl) rfl ?_
        refine j_loc [0, 1, 2, 3] rfl ?_
        exact s_Model_traverse_L86 ih (hx1) (hx2) (hx3) (wr_lit rfl) (hx3) h
      · replace h := ite_t h c2
        refine j_iconst (v := 1) (D_Model_traverse 49 rfl) rfl ?_
        refine j_goto (tgt := 86) (D_Model_traverse 50 rfl) rfl ?_
        refine j_loc [0, 1, 2, 3] rfl ?_
        exact s_Model_traverse_L86 ih (hx1) (hx2) (hx3) (wr_lit rfl) (hx3) h
def f_Model_traverse (G : GS) (a1 : Int) : Option (Int × GS) :=
  (f_Model_isSeizing G a1).bind fun q1 =>
  if q1 = 0 then
    some ((-1), G)
  else
    gd (0 ≤ a1 ∧ a1 < 100) <|
    if gi G 128 a1.toNat = (-1) then
      gd (0 ≤ a1 ∧ a1 < 100) <|
      gd (0 ≤ a1 ∧ a1 < 100) <|
      (f_Model_reignOn G (gi G 126 a1.toNat)).bind fun q2 =>
      gd (0 ≤ q2 ∧ q2 < 4) <|
      if wr ((gi G 81 0) - (gi G 126 a1.toNat)) ≤ gi G 99 q2.toNat then
        gd (0 ≤ a1 ∧ a1 < 100) <|
        wG (si G 128 a1.toNat (gi G 81 0)) fun G1 =>
        f_Model_traverse_L63 FU G1 a1 1 0
      else
        some ((-1), G)
    else
      some ((-1), G)
theorem c_Model_traverse {X : XT} {G : GS} {a1 : Int} {r : Int × GS} (ha1 : wr a1 = a1) (h : f_Model_traverse G a1 = some r) : Call X true 8 0 0 M_Model_traverse [rf X 81, vi a1] NC G (Ri r.1 r.2) := by
  refine Call_of_J cw_Model_traverse (by decide +kernel) (Nat.le_of_ble_eq_true rfl) ?_
  unfold f_Model_traverse at h
  show J X true 8 0 0 M_Model_traverse (Ri r.1 r.2) NC 0 0 0 [(0, rf X 81), (1, vi a1)] [] G
  refine j_aloadn (k := 0) (D_Model_traverse 0 rfl) rfl rfl ?_
  refine j_iloadn (k := 1) (D_Model_traverse 1 rfl) rfl rfl ?_
  obtain ⟨q1, e1, h⟩ := Option.bind_eq_some_iff.mp h
  refine j_cVz (c_Model_isSeizing (ha1) e1) rfl lk_Model_534 mok_Model_isSeizing kd_81 lc_81 rfl (by decide) rfl rfl (Nat.le_of_ble_eq_true rfl) (D_Model_traverse 2 rfl) (fun w1 bw1 => ?_)
  refine j_if_eq (tgt := 47) (D_Model_traverse 3 rfl) rfl (w1) (fun c1 => ?_) (fun c1 => ?_)
  · replace h := ite_t h c1
    refine j_iconst (v := (-1)) (D_Model_traverse 27 rfl) rfl ?_
    exact j_iret (D_Model_traverse 28 rfl) rfl (wr_lit rfl) rfl rfl (leafI h (wr_n (wr_lit rfl)))
  · replace h := ite_f h c1
    refine j_aloadn (k := 0) (D_Model_traverse 4 rfl) rfl rfl ?_
    refine j_getR rfl fa_Model_154 kd_81 lc_81 (by decide) rfl fx_81_72 (by decide) (D_Model_traverse 5 rfl) ?_
    refine j_iloadn (k := 1) (D_Model_traverse 6 rfl) rfl rfl ?_
    have g1 := gd_c h
    replace h := gd_s h
    refine j_iald (NI := 100) (D_Model_traverse 7 rfl) kd_128 lc_128 (ha1) rfl g1.1 g1.2 ?_
    refine j_iconst (v := (-1)) (D_Model_traverse 8 rfl) rfl ?_
    refine j_ic_ne (tgt := 47) (D_Model_traverse 9 rfl) rfl (wr_gi _ _ _) (wr_lit rfl) (fun c2 => ?_) (fun c2 => ?_)
    · replace h := ite_f h c2
      refine j_iconst (v := (-1)) (D_Model_traverse 27 rfl) rfl ?_
      exact j_iret (D_Model_traverse 28 rfl) rfl (wr_lit rfl) rfl rfl (leafI h (wr_n (wr_lit rfl)))
    · replace h := ite_t h c2
      refine j_aloadn (k := 0) (D_Model_traverse 10 rfl) rfl rfl ?_
      refine j_getI rfl fa_Model_192 kd_81 lc_81 (by decide) rfl (D_Model_traverse 11 rfl) ?_
      refine j_aloadn (k := 0) (D_Model_traverse 12 rfl) rfl rfl ?_
      refine j_getR rfl fa_Model_148 kd_81 lc_81 (by decide) rfl fx_81_70 (by decide) (D_Model_traverse 13 rfl) ?_
      refine j_iloadn (k := 1) (D_Model_traverse 14 rfl) rfl rfl ?_
      have g2 := gd_c h
      replace h := gd_s h
      refine j_iald (NI := 100) (D_Model_traverse 15 rfl) kd_126 lc_126 (ha1) rfl g2.1 g2.2 ?_
      refine j_isub (D_Model_traverse 16 rfl) ?_
      refine j_aloadn (k := 0) (D_Model_traverse 17 rfl) rfl rfl ?_
      refine j_getR rfl fa_Model_61 kd_81 lc_81 (by decide) rfl fx_81_21 (by decide) (D_Model_traverse 18 rfl) ?_
      refine j_aloadn (k := 0) (D_Model_traverse 19 rfl) rfl rfl ?_
      refine j_aloadn (k := 0) (D_Model_traverse 20 rfl) rfl rfl ?_
      refine j_getR rfl fa_Model_148 kd_81 lc_81 (by decide) rfl fx_81_70 (by decide) (D_Model_traverse 21 rfl) ?_
      refine j_iloadn (k := 1) (D_Model_traverse 22 rfl) rfl rfl ?_
      have g3 := gd_c h
      replace h := gd_s h
      refine j_iald (NI := 100) (D_Model_traverse 23 rfl) kd_126 lc_126 (ha1) rfl g3.1 g3.2 ?_
      obtain ⟨q2, e2, h⟩ := Option.bind_eq_some_iff.mp h
      refine j_cVi (c_Model_reignOn (wr_gi _ _ _) e2) rfl lk_Model_417 mok_Model_reignOn kd_81 lc_81 rfl (by decide) rfl rfl (Nat.le_of_ble_eq_true rfl) (D_Model_traverse 24 rfl) (fun w2 => ?_)
      have g4 := gd_c h
      replace h := gd_s h
      refine j_iald (NI := 4) (D_Model_traverse 25 rfl) kd_99 lc_99 (w2) rfl g4.1 g4.2 ?_
      refine j_ic_le (tgt := 49) (D_Model_traverse 26 rfl) rfl (rfl) (wr_gi _ _ _) (fun c3 => ?_) (fun c3 => ?_)
      · replace h := ite_t h c3
        refine j_iconst (v := 1) (D_Model_traverse 29 rfl) rfl ?_
        refine j_istoren (L' := [(2, vi 1), (0, rf X 81), (1, vi a1)]) (D_Model_traverse 30 rfl) rfl (wr_lit rfl) (by decide) rfl ?_
        refine j_aloadn (k := 1) (D_Model_traverse 31 rfl) rfl rfl ?_
        refine j_getR rfl fa_Model_154 kd_81 lc_81 (by decide) rfl fx_81_72 (by decide) (D_Model_traverse 32 rfl) ?_
        refine j_iloadn (k := 2) (D_Model_traverse 33 rfl) rfl rfl ?_
        refine j_aloadn (k := 1) (D_Model_traverse 34 rfl) rfl rfl ?_
        refine j_getI rfl fa_Model_192 kd_81 lc_81 (by decide) rfl (D_Model_traverse 35 rfl) ?_
        have g5 := gd_c h
        replace h := gd_s h
        refine j_iast (NI := 100) (D_Model_traverse 36 rfl) kd_128 lc_128 (ha1) rfl g5.1 g5.2 ?_
        refine j_gen (fun G1 e3 => ?_)
        replace h := wG_at h e3
        refine j_iconst (v := 0) (D_Model_traverse 37 rfl) rfl ?_
        refine j_istoren (L' := [(3, vi 0), (2, vi 1), (0, rf X 81), (1, vi a1)]) (D_Model_traverse 38 rfl) rfl (wr_lit rfl) (by decide) rfl ?_
        refine j_loc [2, 3, 1, 0] rfl ?_
        exact s_Model_traverse_L63 FU (ha1) (wr_lit rfl) (wr_lit rfl) h
      · replace h := ite_f h c3
        refine j_iconst (v := (-1)) (D_Model_traverse 27 rfl) rfl ?_
        exact j_iret (D_Model_traverse 28 rfl) rfl (wr_lit rfl) rfl rfl (leafI h (wr_n (wr_lit rfl)))
