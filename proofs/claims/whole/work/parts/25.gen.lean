/-! printed by wip/whole/gen.py out of the listing of the bytecode -/
abbrev M_Model_memories : MI := (⟨"InquestHallModel", "memories", "(I)I"⟩, prog_14_method_89_code, 5, (some .int))
theorem cw_Model_memories : Cond.code M_Model_memories.1 M_Model_memories.2.1 M_Model_memories.2.2.1 M_Model_memories.2.2.2 ∈ TS := mTS (List.mem_of_getElem? (i := 1940) (by decide +kernel)) (by decide +kernel)
theorem lk_Model_540 : Cond.methodLink "InquestHallModel" 540 M_Model_aMemory.1 ∈ TS := mTS (List.mem_of_getElem? (i := 1941) (by decide +kernel)) (by decide +kernel)
theorem mok_Model_aMemory : MOK M_Model_aMemory 1 := ⟨mTS (List.mem_of_getElem? (i := 1943) (by decide +kernel)) (by decide +kernel), mTS (List.mem_of_getElem? (i := 113) (by decide +kernel)) (by decide +kernel), mTS (List.mem_of_getElem? (i := 139) (by decide +kernel)) (by decide +kernel), cw_Model_aMemory, ⟨by decide, by decide, by decide +kernel⟩, by decide +kernel, by decide⟩
theorem fa_Model_163 : FA "InquestHallModel" 163 12 75 true (.array .int) := ⟨_, _, _, _, ok_Model, by decide, mTS (List.mem_of_getElem? (i := 1376) (by decide +kernel)) (by decide +kernel), rfl, rfl⟩
theorem fx_81_75 {G : GS} (w : WF true NC G) : G.2.2 81 75 = 131 := w.2 rfl (81, 75, 131) (by decide)
theorem kd_131 : kd 131 = (0, 768) := rfl
theorem lc_131 : 131 < NC := by decide
theorem fa_Model_166 : FA "InquestHallModel" 166 12 76 true (.array .int) := ⟨_, _, _, _, ok_Model, by decide, mTS (List.mem_of_getElem? (i := 1377) (by decide +kernel)) (by decide +kernel), rfl, rfl⟩
theorem fx_81_76 {G : GS} (w : WF true NC G) : G.2.2 81 76 = 132 := w.2 rfl (81, 76, 132) (by decide)
theorem kd_132 : kd 132 = (0, 768) := rfl
theorem lc_132 : 132 < NC := by decide
theorem fa_Model_169 : FA "InquestHallModel" 169 12 77 true (.array .int) := ⟨_, _, _, _, ok_Model, by decide, mTS (List.mem_of_getElem? (i := 1378) (by decide +kernel)) (by decide +kernel), rfl, rfl⟩
theorem fx_81_77 {G : GS} (w : WF true NC G) : G.2.2 81 77 = 133 := w.2 rfl (81, 77, 133) (by decide)
theorem kd_133 : kd 133 = (0, 768) := rfl
theorem lc_133 : 133 < NC := by decide
theorem fa_Model_172 : FA "InquestHallModel" 172 12 78 true (.array .int) := ⟨_, _, _, _, ok_Model, by decide, mTS (List.mem_of_getElem? (i := 1379) (by decide +kernel)) (by decide +kernel), rfl, rfl⟩
theorem fx_81_78 {G : GS} (w : WF true NC G) : G.2.2 81 78 = 134 := w.2 rfl (81, 78, 134) (by decide)
theorem kd_134 : kd 134 = (0, 768) := rfl
theorem lc_134 : 134 < NC := by decide
def tb_Model_memories : List (Nat × Instr × Nat) := [(0, .aload_n 0, 1), (1, .iload_n 1, 1), (2, .invokevirtual 198, 3), (5, .ifCond .ne 10, 3), (8, .aload_n 0, 1), (9, .iconst 0, 1), (10, .putfield 226, 3), (13, .iconst (-1), 1), (14, .ireturn, 1), (15, .aload_n 0, 1), (16, .iconst 0, 1), (17, .invokevirtual 403, 3), (20, .aload_n 0, 1), (21, .aload_n 0, 1), (22, .getfield 31, 3), (25, .iload_n 1, 1), (26, .iaload, 1), (27, .invokevirtual 540, 3), (30, .istore_n 2, 1), (31, .iload_n 2, 1), (32, .ifCond .eq 24, 3), (35, .aload_n 0, 1), (36, .getfield 314, 3), (39, .ifCond .eq 17, 3), (42, .aload_n 0, 1), (43, .aload_n 0, 1), (44, .getfield 31, 3), (47, .iload_n 1, 1), (48, .iaload, 1), (49, .invokevirtual 540, 3), (52, .istore_n 2, 1), (53, .goto (-22), 3), (56, .aload_n 0, 1), (57, .iload_n 2, 1), (58, .invokevirtual 410, 3), (61, .ifCond .ne 5, 3), (64, .iconst (-1), 1), (65, .ireturn, 1), (66, .iconst 0, 1), (67, .istore_n 3, 1), (68, .iload_n 3, 1), (69, .aload_n 0, 1), (70, .getfield 381, 3), (73, .if_icmp .ge 84, 3), (76, .bipush 24, 2), (78, .iload_n 1, 1), (79, .imul, 1), (80, .aload_n 0, 1), (81, .getfield 31, 3), (84, .iload_n 1, 1), (85, .iaload, 1), (86, .iadd, 1), (87, .istore 4, 2), (89, .aload_n 0, 1), (90, .getfield 163, 3), (93, .iload 4, 2), (95, .aload_n 0, 1), (96, .getfield 91, 3), (99, .iload_n 3, 1), (100, .iaload, 1), (101, .iastore, 1), (102, .aload_n 0, 1), (103, .getfield 166, 3), (106, .iload 4, 2), (108, .aload_n 0, 1), (109, .getfield 94, 3), (112, .iload_n 3, 1), (113, .iaload, 1), (114, .iastore, 1), (115, .aload_n 0, 1), (116, .getfield 169, 3), (119, .iload 4, 2), (121, .aload_n 0, 1), (122, .getfield 97, 3), (125, .iload_n 3, 1), (126, .iaload, 1), (127, .iastore, 1), (128, .aload_n 0, 1), (129, .getfield 172, 3), (132, .iload 4, 2), (134, .aload_n 0, 1), (135, .getfield 100, 3), (138, .iload_n 3, 1), (139, .iaload, 1), (140, .iastore, 1), (141, .aload_n 0, 1), (142, .getfield 31, 3), (145, .iload_n 1, 1), (146, .dup2, 1), (147, .iaload, 1), (148, .iconst 1, 1), (149, .iadd, 1), (150, .iastore, 1), (151, .iinc 3 1, 3), (154, .goto (-86), 3), (157, .aload_n 0, 1), (158, .getfield 381, 3), (161, .ireturn, 1)]
theorem D_Model_memories (i : Nat) {pc len : Nat} {ins : Instr} (hi : tb_Model_memories[i]? = some (pc, ins, len)) : decode M_Model_memories.2.1 pc = .ok (ins, len) := dec_of (by decide +kernel) i hi
def f_Model_memories_L68 : Nat → GS → Int → Int → Option (Int × GS)
  | 0, _, _, _ => none
  | n + 1, G, x1, x3 =>
    if gi G 81 41 ≤ x3 then
      some (gi G 81 41, G)
    else
      gd (0 ≤ x1 ∧ x1 < 32) <|
      gd (0 ≤ x3 ∧ x3 < 30) <|
      gd (0 ≤ wr ((24 * x1) + (gi G 89 x1.toNat)) ∧ wr ((24 * x1) + (gi G 89 x1.toNat)) < 768) <|
      wG (si G 131 (wr ((24 * x1) + (gi G 89 x1.toNat))).toNat (gi G 109 x3.toNat)) fun G1 =>
      gd (0 ≤ x3 ∧ x3 < 30) <|
      gd (0 ≤ wr ((24 * x1) + (gi G 89 x1.toNat)) ∧ wr ((24 * x1) + (gi G 89 x1.toNat)) < 768) <|
      wG (si G1 132 (wr ((24 * x1) + (gi G 89 x1.toNat))).toNat (gi G1 110 x3.toNat)) fun G2 =>
      gd (0 ≤ x3 ∧ x3 < 30) <|
      gd (0 ≤ wr ((24 * x1) + (gi G 89 x1.toNat)) ∧ wr ((24 * x1) + (gi G 89 x1.toNat)) < 768) <|
      wG (si G2 133 (wr ((24 * x1) + (gi G 89 x1.toNat))).toNat (gi G2 111 x3.toNat)) fun G3 =>
      gd (0 ≤ x3 ∧ x3 < 30) <|
      gd (0 ≤ wr ((24 * x1) + (gi G 89 x1.toNat)) ∧ wr ((24 * x1) + (gi G 89 x1.toNat)) < 768) <|
      wG (si G3 134 (wr ((24 * x1) + (gi G 89 x1.toNat))).toNat (gi G3 112 x3.toNat)) fun G4 =>
      gd (0 ≤ x1 ∧ x1 < 32) <|
      gd (0 ≤ x1 ∧ x1 < 32) <|
      wG (si G4 89 x1.toNat ((gi G4 89 x1.toNat) + 1)) fun G5 =>
      f_Model_memories_L68 n G5 x1 (wr (x3 + 1))
theorem s_Model_memories_L68 {X : XT} {r : Int × GS} : ∀ (n : Nat) {G : GS} {x1 : Int} {x3 : Int}, wr x1 = x1 → wr x3 = x3 → f_Model_memories_L68 n G x1 x3 = some r → J X true 14 0 0 M_Model_memories (Ri r.1 r.2) NC 0 0 68 [(0, rf X 81), (1, vi x1), (3, vi x3)] [] G := by
  intro n
  induction n with
  | zero =>
    intro G x1 x3 hx1 hx3 h
    exact none_some h
  | succ n ih =>
    intro G x1 x3 hx1 hx3 h
    rw [f_Model_memories_L68] at h
    refine j_iloadn (k := 2) (D_Model_memories 40 rfl) rfl rfl ?_
    refine j_aloadn (k := 0) (D_Model_memories 41 rfl) rfl rfl ?_
    refine j_getI rfl fa_Model_381 kd_81 lc_81 (by decide) rfl (D_Model_memories 42 rfl) ?_
    refine j_ic_ge (tgt := 157) (D_Model_memories 43 rfl) rfl (hx3) (wr_gi _ _ _) (fun c1 => ?_) (fun c1 => ?_)
    · replace h := ite_t h c1
      refine j_aloadn (k := 0) (D_Model_memories 95 rfl) rfl rfl ?_
      refine j_getI rfl fa_Model_381 kd_81 lc_81 (by decide) rfl (D_Model_memories 96 rfl) ?_
      exact j_iret (D_Model_memories 97 rfl) rfl (wr_gi _ _ _) rfl rfl (leafI h (wr_n (wr_gi _ _ _)))
    · replace h := ite_f h c1
      refine j_bipush (v := 24) (D_Model_memories 44 rfl) rfl ?_
      refine j_iloadn (k := 1) (D_Model_memories 45 rfl) rfl rfl ?_
      refine j_imul (D_Model_memories 46 rfl) ?_
      refine j_aloadn (k := 0) (D_Model_memories 47 rfl) rfl rfl ?_
      refine j_getR rfl fa_Model_31 kd_81 lc_81 (by decide) rfl fx_81_9 (by decide) (D_Model_memories 48 rfl) ?_
      refine j_iloadn (k := 1) (D_Model_memories 49 rfl) rfl rfl ?_
      have g1 := gd_c h
      replace h := gd_s h
      refine j_iald (NI := 32) (D_Model_memories 50 rfl) kd_89 lc_89 (hx1) rfl g1.1 g1.2 ?_
      refine j_iadd (D_Model_memories 51 rfl) ?_
      refine j_istore (L' := [(4, vi (wr ((24 * x1) + (gi G 89 x1.toNat)))), (0, rf X 81), (1, vi x1), (3, vi x3)]) (D_Model_memories 52 rfl) (rfl) (by decide) rfl ?_
      refine j_aloadn (k := 1) (D_Model_memories 53 rfl) rfl rfl ?_
      refine j_getR rfl fa_Model_163 kd_81 lc_81 (by decide) rfl fx_81_75 (by decide) (D_Model_memories 54 rfl) ?_
      refine j_iload (k := 0) (D_Model_memories 55 rfl) rfl ?_
      refine j_aloadn (k := 1) (D_Model_memories 56 rfl) rfl rfl ?_
      refine j_getR rfl fa_Model_91 kd_81 lc_81 (by decide) rfl fx_81_31 (by decide) (D_Model_memories 57 rfl) ?_
      refine j_iloadn (k := 3) (D_Model_memories 58 rfl) rfl rfl ?_
      have g2 := gd_c h
      replace h := gd_s h
      refine j_iald (NI := 30) (D_Model_memories 59 rfl) kd_109 lc_109 (hx3) rfl g2.1 g2.2 ?_
      have g3 := gd_c h
      replace h := gd_s h
      refine j_iast (NI := 768) (D_Model_memories 60 rfl) kd_131 lc_131 (wr_wr _) rfl g3.1 g3.2 ?_
      refine j_gen (fun G1 e1 => ?_)
      replace h := wG_at h e1
      refine j_aloadn (k := 1) (D_Model_memories 61 rfl) rfl rfl ?_
      refine j_getR rfl fa_Model_166 kd_81 lc_81 (by decide) rfl fx_81_76 (by decide) (D_Model_memories 62 rfl) ?_
      refine j_iload (k := 0) (D_Model_memories 63 rfl) rfl ?_
      refine j_aloadn (k := 1) (D_Model_memories 64 rfl) rfl rfl ?_
      refine j_getR rfl fa_Model_94 kd_81 lc_81 (by decide) rfl fx_81_32 (by decide) (D_Model_memories 65 rfl) ?_
      refine j_iloadn (k := 3) (D_Model_memories 66 rfl) rfl rfl ?_
      have g4 := gd_c h
      replace h := gd_s h
      refine j_iald (NI := 30) (D_Model_memories 67 rfl) kd_110 lc_110 (hx3) rfl g4.1 g4.2 ?_
      have g5 := gd_c h
      replace h := gd_s h
      refine j_iast (NI := 768) (D_Model_memories 68 rfl) kd_132 lc_132 (wr_wr _) rfl g5.1 g5.2 ?_
      refine j_gen (fun G2 e2 => ?_)
      replace h := wG_at h e2
      refine j_aloadn (k := 1) (D_Model_memories 69 rfl) rfl rfl ?_
      refine j_getR rfl fa_Model_169 kd_81 lc_81 (by decide) rfl fx_81_77 (by decide) (D_Model_memories 70 rfl) ?_
      refine j_iload (k := 0) (D_Model_memories 71 rfl) rfl ?_
      refine j_aloadn (k := 1) (D_Model_memories 72 rfl) rfl rfl ?_
      refine j_getR rfl fa_Model_97 kd_81 lc_81 (by decide) rfl fx_81_33 (by decide) (D_Model_memories 73 rfl) ?_
      refine j_iloadn (k := 3) (D_Model_memories 74 rfl) rfl rfl ?_
      have g6 := gd_c h
      replace h := gd_s h
      refine j_iald (NI := 30) (D_Model_memories 75 rfl) kd_111 lc_111 (hx3) rfl g6.1 g6.2 ?_
      have g7 := gd_c h
      replace h := gd_s h
      refine j_iast (NI := 768) (D_Model_memories 76 rfl) kd_133 lc_133 (wr_wr _) rfl g7.1 g7.2 ?_
      refine j_gen (fun G3 e3 => ?_)
      replace h := wG_at h e3
      refine j_aloadn (k := 1) (D_Model_memories 77 rfl) rfl rfl ?_
      refine j_getR rfl fa_Model_172 kd_81 lc_81 (by decide) rfl fx_81_78 (by decide) (D_Model_memories 78 rfl) ?_
      refine j_iload (k := 0) (D_Model_memories 79 rfl) rfl ?_
      refine j_aloadn (k := 1) (D_Model_memories 80 rfl) rfl rfl ?_
      refine j_getR rfl fa_Model_100 kd_81 lc_81 (by decide) rfl fx_81_34 (by decide) (D_Model_memories 81 rfl) ?_
      refine j_iloadn (k := 3) (D_Model_memories 82 rfl) rfl rfl ?_
      have g8 := gd_c h
      replace h := gd_s h
      refine j_iald (NI := 30) (D_Model_memories 83 rfl) kd_112 lc_112 (hx3) rfl g8.1 g8.2 ?_
      have g9 := gd_c h
      replace h := gd_s h
      refine j_iast (NI := 768) (D_Model_memories 84 rfl) kd_134 lc_134 (wr_wr _) rfl g9.1 g9.2 ?_
      refine j_gen (fun G4 e4 => ?_)
      replace h := wG_at h e4
      refine j_aloadn (k := 1) (D_Model_memories 85 rfl) rfl rfl ?_
      refine j_getR rfl fa_Model_31 kd_81 lc_81 (by decide) rfl fx_81_9 (by decide) (D_Model_memories 86 rfl) ?_
      refine j_iloadn (k := 2) (D_Model_memories 87 rfl) rfl rfl ?_
      refine j_dup2 (D_Model_memories 88 rfl) rfl rfl ?_
      have g10 := gd_c h
      replace h := gd_s h
      refine j_iald (NI := 32) (D_Model_memories 89 rfl) kd_89 lc_89 (hx1) rfl g10.1 g10.2 ?_
      refine j_iconst (v := 1) (D_Model_memories 90 rfl) rfl ?_
      refine j_iadd (D_Model_memories 91 rfl) ?_
      have g11 := gd_c h
      replace h := gd_s h
      refine j_iast (NI := 32) (D_Model_memories 92 rfl) kd_89 lc_89 (hx1) rfl g11.1 g11.2 ?_
      refine j_gen (fun G5 e5 => ?_)
      replace h := wG_at h e5
      refine j_iinc (k := 3) (L' := [(3, vi (wr (x3 + 1))), (4, vi (wr ((24 * x1) + (gi G 89 x1.toNat)))), (0, rf X 81), (1, vi x1)]) (D_Model_memories 93 rfl) rfl rfl (by decide) rfl ?_
      refine j_goto (tgt := 68) (D_Model_memories 94 rfl) rfl ?_
      refine j_loc [2, 3, 0] rfl ?_
      exact ih (hx1) (wr_wr _) h
def f_Model_memories_L56 (G : GS) (x1 : Int) (x2 : Int) : Option (Int × GS) :=
  (f_Model_ends G x2).bind fun q1 =>
  if q1.1 = 0 then
    some ((-1), q1.2)
  else
    f_Model_memories_L68 FU q1.2 x1 0
theorem s_Model_memories_L56 {X : XT} {r : Int × GS} : ∀ {G : GS} {x1 : Int} {x2 : Int}, wr x1 = x1 → wr x2 = x2 → f_Model_memories_L56 G x1 x2 = some r → J X true 14 0 0 M_Model_memories (Ri r.1 r.2) NC 0 0 56 [(0, rf X 81), (1, vi x1), (2, vi x2)] [] G := by
  intro G x1 x2 hx1 hx2 h
  unfold f_Model_memories_L56 at h
  refine j_aloadn (k := 0) (D_Model_memories 32 rfl) rfl rfl ?_
  refine j_iloadn (k := 2) (D_Model_memories 33 rfl) rfl rfl ?_
  obtain ⟨q1, e1, h⟩ := Option.bind_eq_some_iff.mp h
  refine j_cVz (c_Model_ends (hx2) e1) rfl lk_Model_410 mok_Model_ends kd_81 lc_81 rfl (by decide) rfl rfl (Nat.le_of_ble_eq_true rfl) (D_Model_memories 34 rfl) (fun w1 bw1 => ?_)
  refine j_if_ne (tgt := 66) (D_Model_memories 35 rfl) rfl (w1) (fun c1 => ?_) (fun c1 => ?_)
  · replace h := ite_f h c1
    refine j_iconst (v := 0) (D_Model_memories 38 rfl) rfl ?_
    refine j_istoren (L' := [(3, vi 0), (0, rf X 81), (1, vi x1), (2, vi x2)]) (D_Model_memories 39 rfl) rfl (wr_lit rfl) (by decide) rfl ?_
    refine j_loc [1, 2, 0] rfl ?_
    exact s_Model_memories_L68 FU (hx1) (wr_lit rfl) h
  · replace h := ite_t h c1
    refine j_iconst (v := (-1)) (D_Model_memories 36 rfl) rfl ?_
    exact j_iret (D_Model_memories 37 rfl) rfl (wr_lit rfl) rfl rfl (leafI h (wr_n (wr_lit rfl)))
def f_Model_memories_L31 : Nat → GS → Int → Int → Option (Int × GS)
  | 0, _, _, _ => none
  | n + 1, G, x1, x2 =>
    if x2 = 0 then
      f_Model_memories_L56 G x1 x2
    else
      if gi G 81 45 = 0 then
        f_Model_memories_L56 G x1 x2
      else
        gd (0 ≤ x1 ∧ x1 < 32) <|
        (f_Model_aMemory G (gi G 89 x1.toNat)).bind fun q1 =>
        f_Model_memories_L31 n q1.2 x1 q1.1
theorem s_Model_memories_L31 {X : XT} {r : Int × GS} : ∀ (n : Nat) {G : GS} {x1 : Int} {x2 : Int}, wr x1 = x1 → wr x2 = x2 → f_Model_memories_L31 n G x1 x2 = some r → J X true 14 0 0 M_Model_memories (Ri r.1 r.2) NC 0 0 31 [(0, rf X 81), (1, vi x1), (2, vi x2)] [] G := by
  intro n
  induction n with
  | zero =>
    intro G x1 x2 hx1 hx2 h
    exact none_some h
  | succ n ih =>
    intro G x1 x2 hx1 hx2 h
    rw [f_Model_memories_L31] at h
    refine j_iloadn (k := 2) (D_Model_memories 19 rfl) rfl rfl ?_
    refine j_if_eq (tgt := 56) (D_Model_memories 20 rfl) rfl (hx2) (fun c1 => ?_) (fun c1 => ?_)
    · replace h := ite_t h c1
      refine j_loc [0, 1, 2] rfl ?_
      exact s_Model_memories_L56 (hx1) (hx2) h
    · replace h := ite_f h c1
      refine j_aloadn (k := 0) (D_Model_memories 21 rfl) rfl rfl ?_
      refine j_getI rfl fa_Model_314 kd_81 lc_81 (by decide) rfl (D_Model_memories 22 rfl) ?_
      refine j_if_eq (tgt := 56) (D_Model_memories 23 rfl) rfl (wr_gi _ _ _) (fun c2 => ?_) (fun c2 => ?_)
      · replace h := ite_t h c2
        refine j_loc [0, 1, 2] rfl ?_
        exact s_Model_memories_L56 (hx1) (hx2) h
      · replace h := ite_f h c2
        refine j_aloadn (k := 0) (D_Model_memories 24 rfl) rfl rfl ?_
        refine j_aloadn (k := 0) (D_Model_memories 25 rfl) rfl rfl ?_
        refine j_getR rfl fa_Model_31 kd_81 lc_81 (by decide) rfl fx_81_9 (by decide) (D_Model_memories 26 rfl) ?_
        refine j_iloadn (k := 1) (D_Model_memories 27 rfl) rfl rfl ?_
        have g1 := gd_c h
        replace h := gd_s h
        refine j_iald (NI := 32) (D_Model_memories 28 rfl) kd_89 lc_89 (hx1) rfl g1.1 g1.2 ?_
        obtain ⟨q1, e1, h⟩ := Option.bind_eq_some_iff.mp h
        refine j_cVz (c_Model_aMemory (wr_gi _ _ _) e1) rfl lk_Model_540 mok_Model_aMemory kd_81 lc_81 rfl (by decide) rfl rfl (Nat.le_of_ble_eq_true rfl) (D_Model_memories 29 rfl) (fun w1 bw1 => ?_)
        refine j_istoren (L' := [(2, vi q1.1), (0, rf X 81), (1, vi x1)]) (D_Model_memories 30 rfl) rfl (w1) (by decide) rfl ?_
        refine j_goto (tgt := 31) (D_Model_memories 31 rfl) rfl ?_
        refine j_loc [1, 2, 0] rfl ?_
        exact ih (hx1) (w1) h
def f_Model_memories (G : GS) (a1 : Int) : Option (Int × GS) :=
  (f_Model_isPerson G a1).bind fun q1 =>
  if q1 = 0 then
    wG (si G 81 43 0) fun G1 =>
    some ((-1), G1)
  else
    (f_Model_begins G 0).bind fun q2 =>
    gd (0 ≤ a1 ∧ a1 < 32) <|
    (f_Model_aMemory q2 (gi q2 89 a1.toNat)).bind fun q3 =>
    f_Model_memories_L31 FU q3.2 a1 q3.1
theorem c_Model_memories {X : XT} {G : GS} {a1 : Int} {r : Int × GS} (ha1 : wr a1 = a1) (h : f_Model_memories G a1 = some r) : Call X true 14 0 0 M_Model_memories [rf X 81, vi a1] NC G (Ri r.1 r.2) := by
  refine Call_of_J cw_Model_memories (by decide +kernel) (Nat.le_of_ble_eq_true rfl) ?_
  unfold f_Model_memories at h
  show J X true 14 0 0 M_Model_memories (Ri r.1 r.2) NC 0 0 0 [(0, rf X 81), (1, vi a1)] [] G
  refine j_aloadn (k := 0) (D_Model_memories 0 rfl) rfl rfl ?_
  refine j_iloadn (k := 1) (D_Model_memories 1 rfl) rfl rfl ?_
  obtain ⟨q1, e1, h⟩ := Option.bind_eq_some_iff.mp h
  refine j_cVz (c_Model_isPerson (ha1) e1) rfl lk_Model_198 mok_Model_isPerson kd_81 lc_81 rfl (by decide) rfl rfl (Nat.le_of_ble_eq_true rfl) (D_Model_memories 2 rfl) (fun w1 bw1 => ?_)
  refine j_if_ne (tgt := 15) (D_Model_memories 3 rfl) rfl (w1) (fun c1 => ?_) (fun c1 => ?_)
  · replace h := ite_f h c1
    refine j_aloadn (k := 0) (D_Model_memories 9 rfl) rfl rfl ?_
    refine j_iconst (v := 0) (D_Model_memories 10 rfl) rfl ?_
    obtain ⟨q2, e2, h⟩ := Option.bind_eq_some_iff.mp h
    refine j_cVv (c_Model_begins (wr_lit rfl) e2) rfl lk_Model_403 mok_Model_begins kd_81 lc_81 rfl (by decide) rfl rfl (Nat.le_of_ble_eq_true rfl) (D_Model_memories 11 rfl) ?_
    refine j_aloadn (k := 0) (D_Model_memories 12 rfl) rfl rfl ?_
    refine j_aloadn (k := 0) (D_Model_memories 13 rfl) rfl rfl ?_
    refine j_getR rfl fa_Model_31 kd_81 lc_81 (by decide) rfl fx_81_9 (by decide) (D_Model_memories 14 rfl) ?_
    refine j_iloadn (k := 1) (D_Model_memories 15 rfl) rfl rfl ?_
    have g1 := gd_c h
    replace h := gd_s h
    refine j_iald (NI := 32) (D_Model_memories 16 rfl) kd_89 lc_89 (ha1) rfl g1.1 g1.2 ?_
    obtain ⟨q3, e3, h⟩ := Option.bind_eq_some_iff.mp h
    refine j_cVz (c_Model_aMemory (wr_gi _ _ _) e3) rfl lk_Model_540 mok_Model_aMemory kd_81 lc_81 rfl (by decide) rfl rfl (Nat.le_of_ble_eq_true rfl) (D_Model_memories 17 rfl) (fun w2 bw2 => ?_)
    refine j_istoren (L' := [(2, vi q3.1), (0, rf X 81), (1, vi a1)]) (D_Model_memories 18 rfl) rfl (w2) (by decide) rfl ?_
    refine j_loc [1, 2, 0] rfl ?_
    exact s_Model_memories_L31 FU (ha1) (w2) h
  · replace h := ite_t h c1
    refine j_aloadn (k := 0) (D_Model_memories 4 rfl) rfl rfl ?_
    refine j_iconst (v := 0) (D_Model_memories 5 rfl) rfl ?_
    refine j_putI rfl fa_Model_226 kd_81 lc_81 (by decide) rfl (D_Model_memories 6 rfl) ?_
    refine j_gen (fun G1 e4 => ?_)
    replace h := wG_at h e4
    refine j_iconst (v := (-1)) (D_Model_memories 7 rfl) rfl ?_
    exact j_iret (D_Model_memories 8 rfl) rfl (wr_lit rfl) rfl rfl (leafI h (wr_n (wr_lit rfl)))
abbrev M_Hall_forget : MI := (⟨"InquestHall", "forget", "(I)Z"⟩, prog_1_method_28_code, 2, (some .boolean))
theorem cw_Hall_forget : Cond.code M_Hall_forget.1 M_Hall_forget.2.1 M_Hall_forget.2.2.1 M_Hall_forget.2.2.2 ∈ TS := mTS (List.mem_of_getElem? (i := 1194) (by decide +kernel)) (by decide +kernel)
def tb_Hall_forget : List (Nat × Instr × Nat) := [(0, .aload_n 0, 1), (1, .getfield 12, 3), (4, .iload_n 1, 1), (5, .invokevirtual 122, 3), (8, .ifCond .ne 5, 3), (11, .iconst 0, 1), (12, .ireturn, 1), (13, .aload_n 0, 1), (14, .getfield 42, 3), (17, .getfield 137, 3), (20, .iload_n 1, 1), (21, .iconst 0, 1), (22, .iastore, 1), (23, .iconst 1, 1), (24, .ireturn, 1)]
theorem D_Hall_forget (i : Nat) {pc len : Nat} {ins : Instr} (hi : tb_Hall_forget[i]? = some (pc, ins, len)) : decode M_Hall_forget.2.1 pc = .ok (ins, len) := dec_of (by decide +kernel) i hi
def f_Hall_forget (G : GS) (a1 : Int) : Option (Int × GS) :=
  (f_People_has G a1).bind fun q1 =>
  if q1 = 0 then
    some (0, G)
  else
    gd (0 ≤ a1 ∧ a1 < 32) <|
    wG (si G 25 a1.toNat 0) fun G1 =>
    some (1, G1)
theorem c_Hall_forget {X : XT} {G : GS} {a1 : Int} {r : Int × GS} (ha1 : wr a1 = a1) (h : f_Hall_forget G a1 = some r) : Call X true 7 0 0 M_Hall_forget [rf X 0, vi a1] NC G (Rz r.1 r.2) := by
  refine Call_of_J cw_Hall_forget (by decide +kernel) (Nat.le_of_ble_eq_true rfl) ?_
  unfold f_Hall_forget at h
  show J X true 7 0 0 M_Hall_forget (Rz r.1 r.2) NC 0 0 0 [(0, rf X 0), (1, vi a1)] [] G
  refine j_aloadn (k := 0) (D_Hall_forget 0 rfl) rfl rfl ?_
  refine j_getR rfl fa_Hall_12 kd_0 lc_0 (by decide) rfl fx_0_0 (by decide) (D_Hall_forget 1 rfl) ?_
  refine j_iloadn (k := 1) (D_Hall_forget 2 rfl) rfl rfl ?_
  obtain ⟨q1, e1, h⟩ := Option.bind_eq_some_iff.mp h
  refine j_cVz (c_People_has (ha1) e1) rfl lk_Hall_122 mok_People_has kd_1 lc_1 rfl (by decide) rfl rfl (Nat.le_of_ble_eq_true rfl) (D_Hall_forget 3 rfl) (fun w1 bw1 => ?_)
  refine j_if_ne (tgt := 13) (D_Hall_forget 4 rfl) rfl (w1) (fun c1 => ?_) (fun c1 => ?_)
  · replace h := ite_f h c1
    refine j_aloadn (k := 0) (D_Hall_forget 7 rfl) rfl rfl ?_
    refine j_getR rfl fa_Hall_42 kd_0 lc_0 (by decide) rfl fx_0_4 (by decide) (D_Hall_forget 8 rfl) ?_
    refine j_getR rfl fa_Hall_137 kd_23 lc_23 (by decide) rfl fx_23_1 (by decide) (D_Hall_forget 9 rfl) ?_
    refine j_iloadn (k := 1) (D_Hall_forget 10 rfl) rfl rfl ?_
    refine j_iconst (v := 0) (D_Hall_forget 11 rfl) rfl ?_
    have g1 := gd_c h
    replace h := gd_s h
    refine j_iast (NI := 32) (D_Hall_forget 12 rfl) kd_25 lc_25 (ha1) rfl g1.1 g1.2 ?_
    refine j_gen (fun G1 e2 => ?_)
    replace h := wG_at h e2
    refine j_iconst (v := 1) (D_Hall_forget 13 rfl) rfl ?_
    exact j_zret (D_Hall_forget 14 rfl) rfl (wr_lit rfl) (nz_01 (by decide)) rfl rfl (leafZ h (wr_n (wr_lit rfl)) (by decide))
  · replace h := ite_t h c1
    refine j_iconst (v := 0) (D_Hall_forget 5 rfl) rfl ?_
    exact j_zret (D_Hall_forget 6 rfl) rfl (wr_lit rfl) (nz_01 (by decide)) rfl rfl (leafZ h (wr_n (wr_lit rfl)) (by decide))
abbrev M_Model_forget : MI := (⟨"InquestHallModel", "forget", "(I)Z"⟩, prog_14_method_90_code, 2, (some .boolean))
theorem cw_Model_forget : Cond.code M_Model_forget.1 M_Model_forget.2.1 M_Model_forget.2.2.1 M_Model_forget.2.2.2 ∈ TS := mTS (List.mem_of_getElem? (i := 1952) (by decide +kernel)) (by decide +kernel)
def tb_Model_forget : List (Nat × Instr × Nat) := [(0, .aload_n 0, 1), (1, .iload_n 1, 1), (2, .invokevirtual 198, 3), (5, .ifCond .ne 5, 3), (8, .iconst 0, 1), (9, .ireturn, 1), (10, .aload_n 0, 1), (11, .getfield 31, 3), (14, .iload_n 1, 1), (15, .iconst 0, 1), (16, .iastore, 1), (17, .iconst 1, 1), (18, .ireturn, 1)]
theorem D_Model_forget (i : Nat) {pc len : Nat} {ins : Instr} (hi : tb_Model_forget[i]? = some (pc, ins, len)) : decode M_Model_forget.2.1 pc = .ok (ins, len) := dec_of (by decide +kernel) i hi
def f_Model_forget (G : GS) (a1 : Int) : Option (Int × GS) :=
  (f_Model_isPerson G a1).bind fun q1 =>
  if q1 = 0 then
    some (0, G)
  else
    gd (0 ≤ a1 ∧ a1 < 32) <|
    wG (si G 89 a1.toNat 0) fun G1 =>
    some (1, G1)
theorem c_Model_forget {X : XT} {G : GS} {a1 : Int} {r : Int × GS} (ha1 : wr a1 = a1) (h : f_Model_forget G a1 = some r) : Call X true 8 0 0 M_Model_forget [rf X 81, vi a1] NC G (Rz r.1 r.2) := by
  refine Call_of_J cw_Model_forget (by decide +kernel) (Nat.le_of_ble_eq_true rfl) ?_
  unfold f_Model_forget at h
  show J X true 8 0 0 M_Model_forget (Rz r.1 r.2) NC 0 0 0 [(0, rf X 81), (1, vi a1)] [] G
  refine j_aloadn (k := 0) (D_Model_forget 0 rfl) rfl rfl ?_
  refine j_iloadn (k := 1) (D_Model_forget 1 rfl) rfl rfl ?_
  obtain ⟨q1, e1, h⟩ := Option.bind_eq_some_iff.mp h
  refine j_cVz (c_Model_isPerson (ha1) e1) rfl lk_Model_198 mok_Model_isPerson kd_81 lc_81 rfl (by decide) rfl rfl (Nat.le_of_ble_eq_true rfl) (D_Model_forget 2 rfl) (fun w1 bw1 => ?_)
  refine j_if_ne (tgt := 10) (D_Model_forget 3 rfl) rfl (w1) (fun c1 => ?_) (fun c1 => ?_)
  · replace h := ite_f h c1
    refine j_aloadn (k := 0) (D_Model_forget 6 rfl) rfl rfl ?_
    refine j_getR rfl fa_Model_31 kd_81 lc_81 (by decide) rfl fx_81_9 (by decide) (D_Model_forget 7 rfl) ?_
    refine j_iloadn (k := 1) (D_Model_forget 8 rfl) rfl rfl ?_
    refine j_iconst (v := 0) (D_Model_forget 9 rfl) rfl ?_
    have g1 := gd_c h
    replace h := gd_s h
    refine j_iast (NI := 32) (D_Model_forget 10 rfl) kd_89 lc_89 (ha1) rfl g1.1 g1.2 ?_
    refine j_gen (fun G1 e2 => ?_)
    replace h := wG_at h e2
    refine j_iconst (v := 1) (D_Model_forget 11 rfl) rfl ?_
    exact j_zret (D_Model_forget 12 rfl) rfl (wr_lit rfl) (nz_01 (by decide)) rfl rfl (leafZ h (wr_n (wr_lit rfl)) (by decide))
  · replace h := ite_t h c1
    refine j_iconst (v := 0) (D_Model_forget 4 rfl) rfl ?_
    exact j_zret (D_Model_forget 5 rfl) rfl (wr_lit rfl) (nz_01 (by decide)) rfl rfl (leafZ h (wr_n (wr_lit rfl)) (by decide))
abbrev M_Remembered_lowOf : MI := (⟨"InquestHall$Remembered", "lowOf", "(II)I"⟩, prog_10_method_4_code, 4, (some .int))
theorem cw_Remembered_lowOf : Cond.code M_Remembered_lowOf.1 M_Remembered_lowOf.2.1 M_Remembered_lowOf.2.2.1 M_Remembered_lowOf.2.2.2 ∈ TS := mTS (List.mem_of_getElem? (i := 1214) (by decide +kernel)) (by decide +kernel)
def tb_Remembered_lowOf : List (Nat × Instr × Nat) := [(0, .iload_n 1, 1), (1, .bipush 24, 2), (3, .imul, 1), (4, .iload_n 2, 1), (5, .iadd, 1), (6, .istore_n 3, 1), (7, .aload_n 0, 1), (8, .getfield 11, 3), (11, .aload_n 0, 1), (12, .getfield 20, 3), (15, .iload_n 3, 1), (16, .iaload, 1), (17, .iaload, 1), (18, .aload_n 0, 1), (19, .getfield 23, 3), (22, .iload_n 3, 1), (23, .iaload, 1), (24, .iadd, 1), (25, .ireturn, 1)]
theorem D_Remembered_lowOf (i : Nat) {pc len : Nat} {ins : Instr} (hi : tb_Remembered_lowOf[i]? = some (pc, ins, len)) : decode M_Remembered_lowOf.2.1 pc = .ok (ins, len) := dec_of (by decide +kernel) i hi
def f_Remembered_lowOf (G : GS) (a1 : Int) (a2 : Int) : Option (Int) :=
  gd (0 ≤ wr ((a1 * 24) + a2) ∧ wr ((a1 * 24) + a2) < 768) <|
  gd (0 ≤ gi G 26 (wr ((a1 * 24) + a2)).toNat ∧ gi G 26 (wr ((a1 * 24) + a2)).toNat < 16) <|
  gd (0 ≤ wr ((a1 * 24) + a2) ∧ wr ((a1 * 24) + a2) < 768) <|
  some (wr ((gi G 24 (gi G 26 (wr ((a1 * 24) + a2)).toNat).toNat) + (gi G 27 (wr ((a1 * 24) + a2)).toNat)))
theorem c_Remembered_lowOf {X : XT} {G : GS} {a1 : Int} {a2 : Int} {r : Int} (ha1 : wr a1 = a1) (ha2 : wr a2 = a2) (h : f_Remembered_lowOf G a1 a2 = some r) : Call X true 6 0 0 M_Remembered_lowOf [rf X 23, vi a1, vi a2] NC G (Ri r G) := by
  refine Call_of_J cw_Remembered_lowOf (by decide +kernel) (Nat.le_of_ble_eq_true rfl) ?_
  unfold f_Remembered_lowOf at h
  show J X true 6 0 0 M_Remembered_lowOf (Ri r G) NC 0 0 0 [(0, rf X 23), (1, vi a1), (2, vi a2)] [] G
  refine j_iloadn (k := 1) (D_Remembered_lowOf 0 rfl) rfl rfl ?_
  refine j_bipush (v := 24) (D_Remembered_lowOf 1 rfl) rfl ?_
  refine j_imul (D_Remembered_lowOf 2 rfl) ?_
  refine j_iloadn (k := 2) (D_Remembered_lowOf 3 rfl) rfl rfl ?_
  refine j_iadd (D_Remembered_lowOf 4 rfl) ?_
  refine j_istoren (L' := [(3, vi (wr ((a1 * 24) + a2))), (0, rf X 23), (1, vi a1), (2, vi a2)]) (D_Remembered_lowOf 5 rfl) rfl (rfl) (by decide) rfl ?_
  refine j_aloadn (k := 1) (D_Remembered_lowOf 6 rfl) rfl rfl ?_
  refine j_getR rfl fa_Remembered_11 kd_23 lc_23 (by decide) rfl fx_23_0 (by decide) (D_Remembered_lowOf 7 rfl) ?_
  refine j_aloadn (k := 1) (D_Remembered_lowOf 8 rfl) rfl rfl ?_
  refine j_getR rfl fa_Remembered_20 kd_23 lc_23 (by decide) rfl fx_23_2 (by decide) (D_Remembered_lowOf 9 rfl) ?_
  refine j_iloadn (k := 0) (D_Remembered_lowOf 10 rfl) rfl rfl ?_
  have g1 := gd_c h
  replace h := gd_s h
  refine j_iald (NI := 768) (D_Remembered_lowOf 11 rfl) kd_26 lc_26 (wr_wr _) rfl g1.1 g1.2 ?_
  have g2 := gd_c h
  replace h := gd_s h
  refine j_iald (NI := 16) (D_Remembered_lowOf 12 rfl) kd_24 lc_24 (wr_gi _ _ _) rfl g2.1 g2.2 ?_
  refine j_aloadn (k := 1) (D_Remembered_lowOf 13 rfl) rfl rfl ?_
  refine j_getR rfl fa_Remembered_23 kd_23 lc_23 (by decide) rfl fx_23_3 (by decide) (D_Remembered_lowOf 14 rfl) ?_
  refine j_iloadn (k := 0) (D_Remembered_lowOf 15 rfl) rfl rfl ?_
  have g3 := gd_c h
  replace h := gd_s h
  refine j_iald (NI := 768) (D_Remembered_lowOf 16 rfl) kd_27 lc_27 (wr_wr _) rfl g3.1 g3.2 ?_
  refine j_iadd (D_Remembered_lowOf 17 rfl) ?_
  exact j_iret (D_Remembered_lowOf 18 rfl) rfl (rfl) rfl rfl (leafIo h (wr_n (rfl)))
abbrev M_Remembered_highOf : MI := (⟨"InquestHall$Remembered", "highOf", "(II)I"⟩, prog_10_method_5_code, 4, (some .int))
theorem cw_Remembered_highOf : Cond.code M_Remembered_highOf.1 M_Remembered_highOf.2.1 M_Remembered_highOf.2.2.1 M_Remembered_highOf.2.2.2 ∈ TS := mTS (List.mem_of_getElem? (i := 1218) (by decide +kernel)) (by decide +kernel)
def tb_Remembered_highOf : List (Nat × Instr × Nat) := [(0, .iload_n 1, 1), (1, .bipush 24, 2), (3, .imul, 1), (4, .iload_n 2, 1), (5, .iadd, 1), (6, .istore_n 3, 1), (7, .aload_n 0, 1), (8, .getfield 11, 3), (11, .aload_n 0, 1), (12, .getfield 20, 3), (15, .iload_n 3, 1), (16, .iaload, 1), (17, .iaload, 1), (18, .aload_n 0, 1), (19, .getfield 26, 3), (22, .iload_n 3, 1), (23, .iaload, 1), (24, .iadd, 1), (25, .ireturn, 1)]
theorem D_Remembered_highOf (i : Nat) {pc len : Nat} {ins : Instr} (hi : tb_Remembered_highOf[i]? = some (pc, ins, len)) : decode M_Remembered_highOf.2.1 pc = .ok (ins, len) := dec_of (by decide +kernel) i hi
def f_Remembered_highOf (G : GS) (a1 : Int) (a2 : Int) : Option (Int) :=
  gd (0 ≤ wr ((a1 * 24) + a2) ∧ wr ((a1 * 24) + a2) < 768) <|
  gd (0 ≤ gi G 26 (wr ((a1 * 24) + a2)).toNat ∧ gi G 26 (wr ((a1 * 24) + a2)).toNat < 16) <|
  gd (0 ≤ wr ((a1 * 24) + a2) ∧ wr ((a1 * 24) + a2) < 768) <|
  some (wr ((gi G 24 (gi G 26 (wr ((a1 * 24) + a2)).toNat).toNat) + (gi G 28 (wr ((a1 * 24) + a2)).toNat)))
theorem c_Remembered_highOf {X : XT} {G : GS} {a1 : Int} {a2 : Int} {r : Int} (ha1 : wr a1 = a1) (ha2 : wr a2 = a2) (h : f_Remembered_highOf G a1 a2 = some r) : Call X true 6 0 0 M_Remembered_highOf [rf X 23, vi a1, vi a2] NC G (Ri r G) := by
  refine Call_of_J cw_Remembered_highOf (by decide +kernel) (Nat.le_of_ble_eq_true rfl) ?_
  unfold f_Remembered_highOf at h
  show J X true 6 0 0 M_Remembered_highOf (Ri r G) NC 0 0 0 [(0, rf X 23), (1, vi a1), (2, vi a2)] [] G
  refine j_iloadn (k := 1) (D_Remembered_highOf 0 rfl) rfl rfl ?_
  refine j_bipush (v := 24) (D_Remembered_highOf 1 rfl) rfl ?_
  refine j_imul (D_Remembered_highOf 2 rfl) ?_
  refine j_iloadn (k := 2) (D_Remembered_highOf 3 rfl) rfl rfl ?_
  refine j_iadd (D_Remembered_highOf 4 rfl) ?_
  refine j_istoren (L' := [(3, vi (wr ((a1 * 24) + a2))), (0, rf X 23), (1, vi a1), (2, vi a2)]) (D_Remembered_highOf 5 rfl) rfl (rfl) (by decide) rfl ?_
  refine j_aloadn (k := 1) (D_Remembered_highOf 6 rfl) rfl rfl ?_
  refine j_getR rfl fa_Remembered_11 kd_23 lc_23 (by decide) rfl fx_23_0 (by decide) (D_Remembered_highOf 7 rfl) ?_
  refine j_aloadn (k := 1) (D_Remembered_highOf 8 rfl) rfl rfl ?_
  refine j_getR rfl fa_Remembered_20 kd_23 lc_23 (by decide) rfl fx_23_2 (by decide) (D_Remembered_highOf 9 rfl) ?_
  refine j_iloadn (k := 0) (D_Remembered_highOf 10 rfl) rfl rfl ?_
  have g1 := gd_c h
  replace h := gd_s h
  refine j_iald (NI := 768) (D_Remembered_highOf 11 rfl) kd_26 lc_26 (wr_wr _) rfl g1.1 g1.2 ?_
  have g2 := gd_c h
  replace h := gd_s h
  refine j_iald (NI := 16) (D_Remembered_highOf 12 rfl) kd_24 lc_24 (wr_gi _ _ _) rfl g2.1 g2.2 ?_
  refine j_aloadn (k := 1) (D_Remembered_highOf 13 rfl) rfl rfl ?_
  refine j_getR rfl fa_Remembered_26 kd_23 lc_23 (by decide) rfl fx_23_4 (by decide) (D_Remembered_highOf 14 rfl) ?_
  refine j_iloadn (k := 0) (D_Remembered_highOf 15 rfl) rfl rfl ?_
  have g3 := gd_c h
  replace h := gd_s h
  refine j_iald (NI := 768) (D_Remembered_highOf 16 rfl) kd_28 lc_28 (wr_wr _) rfl g3.1 g3.2 ?_
  refine j_iadd (D_Remembered_highOf 17 rfl) ?_
  exact j_iret (D_Remembered_highOf 18 rfl) rfl (rfl) rfl rfl (leafIo h (wr_n (rfl)))
abbrev M_Remembered_agrees : MI := (⟨"InquestHall$Remembered", "agrees", "(III)Z"⟩, prog_10_method_6_code, 4, (some .boolean))
theorem cw_Remembered_agrees : Cond.code M_Remembered_agrees.1 M_Remembered_agrees.2.1 M_Remembered_agrees.2.2.1 M_Remembered_agrees.2.2.2 ∈ TS := mTS (List.mem_of_getElem? (i := 1210) (by decide +kernel)) (by decide +kernel)
theorem lk_Remembered_35 : Cond.methodLink "InquestHall$Remembered" 35 M_Remembered_lowOf.1 ∈ TS := mTS (List.mem_of_getElem? (i := 1211) (by decide +kernel)) (by decide +kernel)
theorem mok_Remembered_lowOf : MOK M_Remembered_lowOf 2 := ⟨mTS (List.mem_of_getElem? (i := 1213) (by decide +kernel)) (by decide +kernel), mTS (List.mem_of_getElem? (i := 51) (by decide +kernel)) (by decide +kernel), mTS (List.mem_of_getElem? (i := 131) (by decide +kernel)) (by decide +kernel), cw_Remembered_lowOf, ⟨by decide, by decide, by decide +kernel⟩, by decide +kernel, by decide⟩
theorem lk_Remembered_39 : Cond.methodLink "InquestHall$Remembered" 39 M_Remembered_highOf.1 ∈ TS := mTS (List.mem_of_getElem? (i := 1215) (by decide +kernel)) (by decide +kernel)
theorem mok_Remembered_highOf : MOK M_Remembered_highOf 2 := ⟨mTS (List.mem_of_getElem? (i := 1217) (by decide +kernel)) (by decide +kernel), mTS (List.mem_of_getElem? (i := 52) (by decide +kernel)) (by decide +kernel), mTS (List.mem_of_getElem? (i := 131) (by decide +kernel)) (by decide +kernel), cw_Remembered_highOf, ⟨by decide, by decide, by decide +kernel⟩, by decide +kernel, by decide⟩
def tb_Remembered_agrees : List (Nat × Instr × Nat) := [(0, .aload_n 0, 1), (1, .iload_n 1, 1), (2, .iload_n 2, 1), (3, .invokevirtual 35, 3), (6, .iload_n 3, 1), (7, .if_icmp .gt 17, 3), (10, .iload_n 3, 1), (11, .aload_n 0, 1), (12, .iload_n 1, 1), (13, .iload_n 2, 1), (14, .invokevirtual 39, 3), (17, .if_icmp .gt 7, 3), (20, .iconst 1, 1), (21, .goto 4, 3), (24, .iconst 0, 1), (25, .ireturn, 1)]
theorem D_Remembered_agrees (i : Nat) {pc len : Nat} {ins : Instr} (hi : tb_Remembered_agrees[i]? = some (pc, ins, len)) : decode M_Remembered_agrees.2.1 pc = .ok (ins, len) := dec_of (by decide +kernel) i hi
def f_Remembered_agrees (G : GS) (a1 : Int) (a2 : Int) (a3 : Int) : Option (Int) :=
  (f_Remembered_lowOf G a1 a2).bind fun q1 =>
  if a3 < q1 then
    some 0
  else
    (f_Remembered_highOf G a1 a2).bind fun q2 =>
    if q2 < a3 then
      some 0
    else
      some 1
theorem c_Remembered_agrees {X : XT} {G : GS} {a1 : Int} {a2 : Int} {a3 : Int} {r : Int} (ha1 : wr a1 = a1) (ha2 : wr a2 = a2) (ha3 : wr a3 = a3) (h : f_Remembered_agrees G a1 a2 a3 = some r) : Call X true 7 0 0 M_Remembered_agrees [rf X 23, vi a1, vi a2, vi a3] NC G (Rz r G) := by
  refine Call_of_J cw_Remembered_agrees (by decide +kernel) (Nat.le_of_ble_eq_true rfl) ?_
  unfold f_Remembered_agrees at h
  show J X true 7 0 0 M_Remembered_agrees (Rz r G) NC 0 0 0 [(0, rf X 23), (1, vi a1), (2, vi a2), (3, vi a3)] [] G
  refine j_aloadn (k := 0) (D_Remembered_agrees 0 rfl) rfl rfl ?_
  refine j_iloadn (k := 1) (D_Remembered_agrees 1 rfl) rfl rfl ?_
  refine j_iloadn (k := 2) (D_Remembered_agrees 2 rfl) rfl rfl ?_
  obtain ⟨q1, e1, h⟩ := Option.bind_eq_some_iff.mp h
  refine j_cVi (c_Remembered_lowOf (ha1) (ha2) e1) rfl lk_Remembered_35 mok_Remembered_lowOf kd_23 lc_23 rfl (by decide) rfl rfl (Nat.le_of_ble_eq_true rfl) (D_Remembered_agrees 3 rfl) (fun w1 => ?_)
  refine j_iloadn (k := 3) (D_Remembered_agrees 4 rfl) rfl rfl ?_
  refine j_ic_gt (tgt := 24) (D_Remembered_agrees 5 rfl) rfl (w1) (ha3) (fun c1 => ?_) (fun c1 => ?_)
  · replace h := ite_t h c1
    refine j_iconst (v := 0) (D_Remembered_agrees 14 rfl) rfl ?_
    exact j_zret (D_Remembered_agrees 15 rfl) rfl (wr_lit rfl) (nz_01 (by decide)) rfl rfl (leafZo h (wr_n (wr_lit rfl)) (by decide))
  · replace h := ite_f h c1
    refine j_iloadn (k := 3) (D_Remembered_agrees 6 rfl) rfl rfl ?_
    refine j_aloadn (k := 0) (D_Remembered_agrees 7 rfl) rfl rfl ?_
    refine j_iloadn (k := 1) (D_Remembered_agrees 8 rfl) rfl rfl ?_
    refine j_iloadn (k := 2) (D_Remembered_agrees 9 rfl) rfl rfl ?_
    obtain ⟨q2, e2, h⟩ := Option.bind_eq_some_iff.mp h
    refine j_cVi (c_Remembered_highOf (ha1) (ha2) e2) rfl lk_Remembered_39 mok_Remembered_highOf kd_23 lc_23 rfl (by decide) rfl rfl (Nat.le_of_ble_eq_true rfl) (D_Remembered_agrees 10 rfl) (fun w2 => ?_)
    refine j_ic_gt (tgt := 24) (D_Remembered_agrees 11 rfl) rfl (ha3) (w2) (fun c2 => ?_) (fun c2 => ?_)
    · replace h := ite_t h c2
      refine j_iconst (v := 0) (D_Remembered_agrees 14 rfl) rfl ?_
      exact j_zret (D_Remembered_agrees 15 rfl) rfl (wr_lit rfl) (nz_01 (by decide)) rfl rfl (leafZo h (wr_n (wr_lit rfl)) (by decide))
    · replace h := ite_f h c2
      refine j_iconst (v := 1) (D_Remembered_agrees 12 rfl) rfl ?_
      refine j_goto (tgt := 25) (D_Remembered_agrees 13 rfl) rfl ?_
      exact j_zret (D_Remembered_agrees 15 rfl) rfl (wr_lit rfl) (nz_01 (by decide)) rfl rfl (leafZo h (wr_n (wr_lit rfl)) (by decide))
abbrev M_Remembered_agreeing : MI := (⟨"InquestHall$Remembered", "agreeing", "(II)I"⟩, prog_10_method_7_code, 5, (some .int))
theorem cw_Remembered_agreeing : Cond.code M_Remembered_agreeing.1 M_Remembered_agreeing.2.1 M_Remembered_agreeing.2.2.1 M_Remembered_agreeing.2.2.2 ∈ TS := mTS (List.mem_of_getElem? (i := 1206) (by decide +kernel)) (by decide +kernel)
theorem fa_Remembered_17 : FA "InquestHall$Remembered" 17 5 1 true (.array .int) := ⟨_, _, _, _, ok_Remembered, by decide, mTS (List.mem_of_getElem? (i := 374) (by decide +kernel)) (by decide +kernel), rfl, rfl⟩
theorem lk_Remembered_42 : Cond.methodLink "InquestHall$Remembered" 42 M_Remembered_agrees.1 ∈ TS := mTS (List.mem_of_getElem? (i := 1207) (by decide +kernel)) (by decide +kernel)
theorem mok_Remembered_agrees : MOK M_Remembered_agrees 3 := ⟨mTS (List.mem_of_getElem? (i := 1209) (by decide +kernel)) (by decide +kernel), mTS (List.mem_of_getElem? (i := 50) (by decide +kernel)) (by decide +kernel), mTS (List.mem_of_getElem? (i := 131) (by decide +kernel)) (by decide +kernel), cw_Remembered_agrees, ⟨by decide, by decide, by decide +kernel⟩, by decide +kernel, by decide⟩
def tb_Remembered_agreeing : List (Nat × Instr × Nat) := [(0, .iconst 0, 1), (1, .istore_n 3, 1), (2, .iconst 0, 1), (3, .istore 4, 2), (5, .iload 4, 2), (7, .aload_n 0, 1), (8, .getfield 17, 3), (11, .iload_n 1, 1), (12, .iaload, 1), (13, .if_icmp .ge 28, 3), (16, .iload_n 3, 1), (17, .aload_n 0, 1), (18, .iload_n 1, 1), (19, .iload 4, 2), (21, .iload_n 2, 1), (22, .invokevirtual 42, 3), (25, .ifCond .eq 7, 3), (28, .iconst 1, 1), (29, .goto 4, 3), (32, .iconst 0, 1), (33, .iadd, 1), (34, .istore_n 3, 1), (35, .iinc 4 1, 3), (38, .goto (-33), 3), (41, .iload_n 3, 1), (42, .ireturn, 1)]
theorem D_Remembered_agreeing (i : Nat) {pc len : Nat} {ins : Instr} (hi : tb_Remembered_agreeing[i]? = some (pc, ins, len)) : decode M_Remembered_agreeing.2.1 pc = .ok (ins, len) := dec_of (by decide +kernel) i hi
def f_Remembered_agreeing_L33 (G : GS) (k5 : Int → Int → Int → Int → Option (Int)) (x1 : Int) (x2 : Int) (x4 : Int) (s0 : Int) (s1 : Int) : Option (Int) :=
  k5 x1 x2 (wr (s1 + s0)) (wr (x4 + 1))
theorem s_Remembered_agreeing_L33 {X : XT} {G : GS} {r : Int} {k5 : Int → Int → Int → Int → Option (Int)} (hk5 : ∀ {x1 : Int} {x2 : Int} {x3 : Int} {x4 : Int} , wr x1 = x1 → wr x2 = x2 → wr x3 = x3 → wr x4 = x4 → k5 x1 x2 x3 x4 = some r → J X true 8 0 0 M_Remembered_agreeing (Ri r G) NC 0 0 5 [(0, rf X 23), (1, vi x1), (2, vi x2), (3, vi x3), (4, vi x4)] [] G) : ∀ {x1 : Int} {x2 : Int} {x4 : Int} {s0 : Int} {s1 : Int}, wr x1 = x1 → wr x2 = x2 → wr x4 = x4 → wr s0 = s0 → wr s1 = s1 → f_Remembered_agreeing_L33 G k5 x1 x2 x4 s0 s1 = some r → J X true 8 0 0 M_Remembered_agreeing (Ri r G) NC 0 0 33 [(0, rf X 23), (1, vi x1), (2, vi x2), (4, vi x4)] [vi s0, vi s1] G := by
  intro x1 x2 x4 s0 s1 hx1 hx2 hx4 hs0 hs1 h
  unfold f_Remembered_agreeing_L33 at h
  refine j_iadd (D_Remembered_agreeing 20 rfl) ?_
  refine j_istoren (L' := [(3, vi (wr (s1 + s0))), (0, rf X 23), (1, vi x1), (2, vi x2), (4, vi x4)]) (D_Remembered_agreeing 21 rfl) rfl (rfl) (by decide) rfl ?_
  refine j_iinc (k := 4) (L' := [(4, vi (wr (x4 + 1))), (3, vi (wr (s1 + s0))), (0, rf X 23), (1, vi x1), (2, vi x2)]) (D_Remembered_agreeing 22 rfl) rfl rfl (by decide) rfl ?_
  refine j_goto (tgt := 5) (D_Remembered_agreeing 23 rfl) rfl ?_
  refine j_loc [2, 3, 4, 1, 0] rfl ?_
  exact hk5 (hx1) (hx2) (wr_wr _) (wr_wr _) h
def f_Remembered_agreeing_L5 (G : GS) : Nat → Int → Int → Int → Int → Option (Int)
  | 0, _, _, _, _ => none
  | n + 1, x1, x2, x3, x4 =>
    gd (0 ≤ x1 ∧ x1 < 32) <|
    if gi G 25 x1.toNat ≤ x4 then
      some x3
    else
      (f_Remembered_agrees G x1 x4 x2).bind fun q1 =>
      if q1 = 0 then
        f_Remembered_agreeing_L33 G (f_Remembered_agreeing_L5 G n) x1 x2 x4 0 x3
      else
        f_Remembered_agreeing_L33 G (f_Remembered_agreeing_L5 G n) x1 x2 x4 1 x3
theorem s_Remembered_agreeing_L5 {X : XT} {G : GS} {r : Int} : ∀ (n : Nat) {x1 : Int} {x2 : Int} {x3 : Int} {x4 : Int}, wr x1 = x1 → wr x2 = x2 → wr x3 = x3 → wr x4 = x4 → f_Remembered_agreeing_L5 G n x1 x2 x3 x4 = some r → J X true 8 0 0 M_Remembered_agreeing (Ri r G) NC 0 0 5 [(0, rf X 23), (1, vi x1), (2, vi x2), (3, vi x3), (4, vi x4)] [] G := by
  intro n
  induction n with
  | zero =>
    intro x1 x2 x3 x4 hx1 hx2 hx3 hx4 h
    exact none_some h
  | succ n ih =>
    intro x1 x2 x3 x4 hx1 hx2 hx3 hx4 h
    rw [f_Remembered_agreeing_L5] at h
    refine j_iload (k := 4) (D_Remembered_agreeing 4 rfl) rfl ?_
    refine j_aloadn (k := 0) (D_Remembered_agreeing 5 rfl) rfl rfl ?_
    refine j_getR rfl fa_Remembered_17 kd_23 lc_23 (by decide) rfl fx_23_1 (by decide) (D_Remembered_agreeing 6 rfl) ?_
    refine j_iloadn (k := 1) (D_Remembered_agreeing 7 rfl) rfl rfl ?_
    have g1 := gd_c h
    replace h := gd_s h
    refine j_iald (NI := 32) (D_Remembered_agreeing 8 rfl) kd_25 lc_25 (hx1) rfl g1.1 g1.2 ?_
    refine j_ic_ge (tgt := 41) (D_Remembered_agreeing 9 rfl) rfl (hx4) (wr_gi _ _ _) (fun c1 => ?_) (fun c1 => ?_)
    · replace h := ite_t h c1
      refine j_iloadn (k := 3) (D_Remembered_agreeing 24 rfl) rfl rfl ?_
      exact j_iret (D_Remembered_agreeing 25 rfl) rfl (hx3) rfl rfl (leafIo h (wr_n (hx3)))
    · replace h := ite_f h c1
      refine j_iloadn (k := 3) (D_Remembered_agreeing 10 rfl) rfl rfl ?_
      refine j_aloadn (k := 0) (D_Remembered_agreeing 11 rfl) rfl rfl ?_
      refine j_iloadn (k := 1) (D_Remembered_agreeing 12 rfl) rfl rfl ?_
      refine j_iload (k := 4) (D_Remembered_agreeing 13 rfl) rfl ?_
      refine j_iloadn (k := 2) (D_Remembered_agreeing 14 rfl) rfl rfl ?_
      obtain ⟨q1, e1, h⟩ := Option.bind_eq_some_iff.mp h
      refine j_cVz (c_Remembered_agrees (hx1) (hx4) (hx2) e1) rfl lk_Remembered_42 mok_Remembered_agrees kd_23 lc_23 rfl (by decide) rfl rfl (Nat.le_of_ble_eq_true rfl) (D_Remembered_agreeing 15 rfl) (fun w1 bw1 => ?_)
      refine j_if_eq (tgt := 32) (D_Remembered_agreeing 16 rfl) rfl (w1) (fun c2 => ?_) (fun c2 => ?_)
      · replace h := ite_t h c2
        refine j_iconst (v := 0) (D_Remembered_agreeing 19 rfl) rfl ?_
        refine j_loc [0, 1, 2, 4] rfl ?_
        exact s_Remembered_agreeing_L33 ih (hx1) (hx2) (hx4) (wr_lit rfl) (hx3) h
      · replace h := ite_f h c2
        refine j_iconst (v := 1) (D_Remembered_agreeing 17 rfl) rfl ?_
        refine j_goto (tgt := 33) (D_Remembered_agreeing 18 rfl) rfl ?_
        refine j_loc [0, 1, 2, 4] rfl ?_
        exact s_Remembered_agreeing_L33 ih (hx1) (hx2) (hx4) (wr_lit rfl) (hx3) h
def f_Remembered_agreeing (G : GS) (a1 : Int) (a2 : Int) : Option (Int) :=
  f_Remembered_agreeing_L5 G FU a1 a2 0 0
theorem c_Remembered_agreeing {X : XT} {G : GS} {a1 : Int} {a2 : Int} {r : Int} (ha1 : wr a1 = a1) (ha2 : wr a2 = a2) (h : f_Remembered_agreeing G a1 a2 = some r) : Call X true 8 0 0 M_Remembered_agreeing [rf X 23, vi a1, vi a2] NC G (Ri r G) := by
  refine Call_of_J cw_Remembered_agreeing (by decide +kernel) (Nat.le_of_ble_eq_true rfl) ?_
  unfold f_Remembered_agreeing at h
  show J X true 8 0 0 M_Remembered_agreeing (Ri r G) NC 0 0 0 [(0, rf X 23), (1, vi a1), (2, vi a2)] [] G
  refine j_iconst (v := 0) (D_Remembered_agreeing 0 rfl) rfl ?_
  refine j_istoren (L' := [(3, vi 0), (0, rf X 23), (1, vi a1), (2, vi a2)]) (D_Remembered_agreeing 1 rfl) rfl (wr_lit rfl) (by decide) rfl ?_
  refine j_iconst (v := 0) (D_Remembered_agreeing 2 rfl) rfl ?_
  refine j_istore (L' := [(4, vi 0), (3, vi 0), (0, rf X 23), (1, vi a1), (2, vi a2)]) (D_Remembered_agreeing 3 rfl) (wr_lit rfl) (by decide) rfl ?_
  refine j_loc [2, 3, 4, 1, 0] rfl ?_
  exact s_Remembered_agreeing_L5 FU (ha1) (ha2) (wr_lit rfl) (wr_lit rfl) h
abbrev M_Remembered_lastOf : MI := (⟨"InquestHall$Remembered", "lastOf", "(I)I"⟩, prog_10_method_9_code, 5, (some .int))
theorem cw_Remembered_lastOf : Cond.code M_Remembered_lastOf.1 M_Remembered_lastOf.2.1 M_Remembered_lastOf.2.2.1 M_Remembered_lastOf.2.2.2 ∈ TS := mTS (List.mem_of_getElem? (i := 1223) (by decide +kernel)) (by decide +kernel)
theorem lk_Remembered_50 : Cond.methodLink "InquestHall$Remembered" 50 M_Remembered_agreeing.1 ∈ TS := mTS (List.mem_of_getElem? (i := 1203) (by decide +kernel)) (by decide +kernel)
theorem mok_Remembered_agreeing : MOK M_Remembered_agreeing 2 := ⟨mTS (List.mem_of_getElem? (i := 1205) (by decide +kernel)) (by decide +kernel), mTS (List.mem_of_getElem? (i := 49) (by decide +kernel)) (by decide +kernel), mTS (List.mem_of_getElem? (i := 131) (by decide +kernel)) (by decide +kernel), cw_Remembered_agreeing, ⟨by decide, by decide, by decide +kernel⟩, by decide +kernel, by decide⟩
theorem fa_Remembered_53 : FA "InquestHall$Remembered" 53 5 7 false .int := ⟨_, _, _, _, ok_Remembered, by decide, mTS (List.mem_of_getElem? (i := 384) (by decide +kernel)) (by decide +kernel), rfl, rfl⟩
theorem fa_Remembered_46 : FA "InquestHall$Remembered" 46 5 5 false .int := ⟨_, _, _, _, ok_Remembered, by decide, mTS (List.mem_of_getElem? (i := 380) (by decide +kernel)) (by decide +kernel), rfl, rfl⟩
def tb_Remembered_lastOf : List (Nat × Instr × Nat) := [(0, .aload_n 0, 1), (1, .iload_n 1, 1), (2, .sipush 29999, 3), (5, .invokevirtual 50, 3), (8, .aload_n 0, 1), (9, .getfield 53, 3), (12, .if_icmp .ne 7, 3), (15, .sipush 29999, 3), (18, .ireturn, 1), (19, .aload_n 0, 1), (20, .getfield 46, 3), (23, .istore_n 2, 1), (24, .iconst 0, 1), (25, .istore_n 3, 1), (26, .iload_n 3, 1), (27, .aload_n 0, 1), (28, .getfield 17, 3), (31, .iload_n 1, 1), (32, .iaload, 1), (33, .if_icmp .ge 48, 3), (36, .aload_n 0, 1), (37, .iload_n 1, 1), (38, .iload_n 3, 1), (39, .invokevirtual 39, 3), (42, .istore 4, 2), (44, .iload 4, 2), (46, .invokestatic 56, 3), (49, .ifCond .eq 26, 3), (52, .iload 4, 2), (54, .iload_n 2, 1), (55, .if_icmp .le 20, 3), (58, .aload_n 0, 1), (59, .iload_n 1, 1), (60, .iload 4, 2), (62, .invokevirtual 50, 3), (65, .aload_n 0, 1), (66, .getfield 53, 3), (69, .if_icmp .ne 6, 3), (72, .iload 4, 2), (74, .istore_n 2, 1), (75, .iinc 3 1, 3), (78, .goto (-52), 3), (81, .iload_n 2, 1), (82, .ireturn, 1)]
theorem D_Remembered_lastOf (i : Nat) {pc len : Nat} {ins : Instr} (hi : tb_Remembered_lastOf[i]? = some (pc, ins, len)) : decode M_Remembered_lastOf.2.1 pc = .ok (ins, len) := dec_of (by decide +kernel) i hi
def f_Remembered_lastOf_L75 (G : GS) (k26 : Int → Int → Int → Option (Int)) (x1 : Int) (x2 : Int) (x3 : Int) : Option (Int) :=
  k26 x1 x2 (wr (x3 + 1))
theorem s_Remembered_lastOf_L75 {X : XT} {G : GS} {r : Int} {k26 : Int → Int → Int → Option (Int)} (hk26 : ∀ {x1 : Int} {x2 : Int} {x3 : Int} , wr x1 = x1 → wr x2 = x2 → wr x3 = x3 → k26 x1 x2 x3 = some r → J X true 9 0 0 M_Remembered_lastOf (Ri r G) NC 0 0 26 [(0, rf X 23), (1, vi x1), (2, vi x2), (3, vi x3)] [] G) : ∀ {x1 : Int} {x2 : Int} {x3 : Int}, wr x1 = x1 → wr x2 = x2 → wr x3 = x3 → f_Remembered_lastOf_L75 G k26 x1 x2 x3 = some r → J X true 9 0 0 M_Remembered_lastOf (Ri r G) NC 0 0 75 [(0, rf X 23), (1, vi x1), (2, vi x2), (3, vi x3)] [] G := by
  intro x1 x2 x3 hx1 hx2 hx3 h
  unfold f_Remembered_lastOf_L75 at h
  refine j_iinc (k := 3) (L' := [(3, vi (wr (x3 + 1))), (0, rf X 23), (1, vi x1), (2, vi x2)]) (D_Remembered_lastOf 40 rfl) rfl rfl (by decide) rfl ?_
  refine j_goto (tgt := 26) (D_Remembered_lastOf 41 rfl) rfl ?_
  refine j_loc [1, 2, 3, 0] rfl ?_
  exact hk26 (hx1) (hx2) (wr_wr _) h
def f_Remembered_lastOf_L26 (G : GS) : Nat → Int → Int → Int → Option (Int)
  | 0, _, _, _ => none
  | n + 1, x1, x2, x3 =>
    gd (0 ≤ x1 ∧ x1 < 32) <|
    if gi G 25 x1.toNat ≤ x3 then
      some x2
    else
      (f_Remembered_highOf G x1 x3).bind fun q1 =>
      (f_Hall_isDay G q1).bind fun q2 =>
      if q2 = 0 then
        f_Remembered_lastOf_L75 G (f_Remembered_lastOf_L26 G n) x1 x2 x3
      else
        if q1 ≤ x2 then
          f_Remembered_lastOf_L75 G (f_Remembered_lastOf_L26 G n) x1 x2 x3
        else
          (f_Remembered_agreeing G x1 q1).bind fun q3 =>
          if q3 = gi G 23 7 then
            f_Remembered_lastOf_L75 G (f_Remembered_lastOf_L26 G n) x1 q1 x3
          else
            f_Remembered_lastOf_L75 G (f_Remembered_lastOf_L26 G n) x1 x2 x3
theorem s_Remembered_lastOf_L26 {X : XT} {G : GS} {r : Int} : ∀ (n : Nat) {x1 : Int} {x2 : Int} {x3 : Int}, wr x1 = x1 → wr x2 = x2 → wr x3 = x3 → f_Remembered_lastOf_L26 G n x1 x2 x3 = some r → J X true 9 0 0 M_Remembered_lastOf (Ri r G) NC 0 0 26 [(0, rf X 23), (1, vi x1), (2, vi x2), (3, vi x3)] [] G := by
  intro n
  induction n with
  | zero =>
    intro x1 x2 x3 hx1 hx2 hx3 h
    exact none_some h
  | succ n ih =>
    intro x1 x2 x3 hx1 hx2 hx3 h
    rw [f_Remembered_lastOf_L26] at h
    refine j_iloadn (k := 3) (D_Remembered_lastOf 14 rfl) rfl rfl ?_
    refine j_aloadn (k := 0) (D_Remembered_lastOf 15 rfl) rfl rfl ?_
    refine j_getR rfl fa_Remembered_17 kd_23 lc_23 (by decide) rfl fx_23_1 (by decide) (D_Remembered_lastOf 16 rfl) ?_
    refine j_iloadn (k := 1) (D_Remembered_lastOf 17 rfl) rfl rfl ?_
    have g1 := gd_c h
    replace h := gd_s h
    refine j_iald (NI := 32) (D_Remembered_lastOf 18 rfl) kd_25 lc_25 (hx1) rfl g1.1 g1.2 ?_
    refine j_ic_ge (tgt := 81) (D_Remembered_lastOf 19 rfl) rfl (hx3) (wr_gi _ _ _) (fun c1 => ?_) (fun c1 => ?_)
    · replace h := ite_t h c1
      refine j_iloadn (k := 2) (D_Remembered_lastOf 42 rfl) rfl rfl ?_
      exact j_iret (D_Remembered_lastOf 43 rfl) rfl (hx2) rfl rfl (leafIo h (wr_n (hx2)))
    · replace h := ite_f h c1
      refine j_aloadn (k := 0) (D_Remembered_lastOf 20 rfl) rfl rfl ?_
      refine j_iloadn (k := 1) (D_Remembered_lastOf 21 rfl) rfl rfl ?_
      refine j_iloadn (k := 3) (D_Remembered_lastOf 22 rfl) rfl rfl ?_
      obtain ⟨q1, e1, h⟩ := Option.bind_eq_some_iff.mp h
      refine j_cVi (c_Remembered_highOf (hx1) (hx3) e1) rfl lk_Remembered_39 mok_Remembered_highOf kd_23 lc_23 rfl (by decide) rfl rfl (Nat.le_of_ble_eq_true rfl) (D_Remembered_lastOf 23 rfl) (fun w1 => ?_)
      refine j_istore (L' := [(4, vi q1), (0, rf X 23), (1, vi x1), (2, vi x2), (3, vi x3)]) (D_Remembered_lastOf 24 rfl) (w1) (by decide) rfl ?_
      refine j_iload (k := 0) (D_Remembered_lastOf 25 rfl) rfl ?_
      obtain ⟨q2, e2, h⟩ := Option.bind_eq_some_iff.mp h
      refine j_cSNz (c_Hall_isDay (w1) e2) rfl (by decide : ("InquestHall$Remembered", 56, M_Hall_isDay.1, "InquestHall") ∈ nestL) sok_Hall_isDay (by decide) rfl rfl (Nat.le_of_ble_eq_true rfl) (D_Remembered_lastOf 26 rfl) (fun w2 bw2 => ?_)
      refine j_if_eq (tgt := 75) (D_Remembered_lastOf 27 rfl) rfl (w2) (fun c2 => ?_) (fun c2 => ?_)
      · replace h := ite_t h c2
        refine j_loc [1, 2, 3, 4] rfl ?_
        exact s_Remembered_lastOf_L75 ih (hx1) (hx2) (hx3) h
      · replace h := ite_f h c2
        refine j_iload (k := 0) (D_Remembered_lastOf 28 rfl) rfl ?_
        refine j_iloadn (k := 3) (D_Remembered_lastOf 29 rfl) rfl rfl ?_
        refine j_ic_le (tgt := 75) (D_Remembered_lastOf 30 rfl) rfl (w1) (hx2) (fun c3 => ?_) (fun c3 => ?_)
        · replace h := ite_t h c3
          refine j_loc [1, 2, 3, 4] rfl ?_
          exact s_Remembered_lastOf_L75 ih (hx1) (hx2) (hx3) h
        · replace h := ite_f h c3
          refine j_aloadn (k := 1) (D_Remembered_lastOf 31 rfl) rfl rfl ?_
          refine j_iloadn (k := 2) (D_Remembered_lastOf 32 rfl) rfl rfl ?_
          refine j_iload (k := 0) (D_Remembered_lastOf 33 rfl) rfl ?_
          obtain ⟨q3, e3, h⟩ := Option.bind_eq_some_iff.mp h
          refine j_cVi (c_Remembered_agreeing (hx1) (w1) e3) rfl lk_Remembered_50 mok_Remembered_agreeing kd_23 lc_23 rfl (by decide) rfl rfl (Nat.le_of_ble_eq_true rfl) (D_Remembered_lastOf 34 rfl) (fun w3 => ?_)
          refine j_aloadn (k := 1) (D_Remembered_lastOf 35 rfl) rfl rfl ?_
          refine j_getI rfl fa_Remembered_53 kd_23 lc_23 (by decide) rfl (D_Remembered_lastOf 36 rfl) ?_
          refine j_ic_ne (tgt := 75) (D_Remembered_lastOf 37 rfl) rfl (w3) (wr_gi _ _ _) (fun c4 => ?_) (fun c4 => ?_)
          · replace h := ite_f h c4
            refine j_loc [1, 2, 3, 4] rfl ?_
            exact s_Remembered_lastOf_L75 ih (hx1) (hx2) (hx3) h
          · replace h := ite_t h c4
            refine j_iload (k := 0) (D_Remembered_lastOf 38 rfl) rfl ?_
            refine j_istoren (L' := [(2, vi q1), (4, vi q1), (0, rf X 23), (1, vi x1), (3, vi x3)]) (D_Remembered_lastOf 39 rfl) rfl (w1) (by decide) rfl ?_
            refine j_loc [2, 3, 0, 4] rfl ?_
            exact s_Remembered_lastOf_L75 ih (hx1) (w1) (hx3) h
def f_Remembered_lastOf (G : GS) (a1 : Int) : Option (Int) :=
  (f_Remembered_agreeing G a1 29999).bind fun q1 =>
  if q1 = gi G 23 7 then
    some 29999
  else
    f_Remembered_lastOf_L26 G FU a1 (gi G 23 5) 0
theorem c_Remembered_lastOf {X : XT} {G : GS} {a1 : Int} {r : Int} (ha1 : wr a1 = a1) (h : f_Remembered_lastOf G a1 = some r) : Call X true 9 0 0 M_Remembered_lastOf [rf X 23, vi a1] NC G (Ri r G) := by
  refine Call_of_J cw_Remembered_lastOf (by decide +kernel) (Nat.le_of_ble_eq_true rfl) ?_
  unfold f_Remembered_lastOf at h
  show J X true 9 0 0 M_Remembered_lastOf (Ri r G) NC 0 0 0 [(0, rf X 23), (1, vi a1)] [] G
  refine j_aloadn (k := 0) (D_Remembered_lastOf 0 rfl) rfl rfl ?_
  refine j_iloadn (k := 1) (D_Remembered_lastOf 1 rfl) rfl rfl ?_
  refine j_sipush (v := 29999) (D_Remembered_lastOf 2 rfl) rfl ?_
  obtain ⟨q1, e1, h⟩ := Option.bind_eq_some_iff.mp h
  refine j_cVi (c_Remembered_agreeing (ha1) (wr_lit rfl) e1) rfl lk_Remembered_50 mok_Remembered_agreeing kd_23 lc_23 rfl (by decide) rfl rfl (Nat.le_of_ble_eq_true rfl) (D_Remembered_lastOf 3 rfl) (fun w1 => ?_)
  refine j_aloadn (k := 0) (D_Remembered_lastOf 4 rfl) rfl rfl ?_
  refine j_getI rfl fa_Remembered_53 kd_23 lc_23 (by decide) rfl (D_Remembered_lastOf 5 rfl) ?_
  refine j_ic_ne (tgt := 19) (D_Remembered_lastOf 6 rfl) rfl (w1) (wr_gi _ _ _) (fun c1 => ?_) (fun c1 => ?_)
  · replace h := ite_f h c1
    refine j_aloadn (k := 0) (D_Remembered_lastOf 9 rfl) rfl rfl ?_
    refine j_getI rfl fa_Remembered_46 kd_23 lc_23 (by decide) rfl (D_Remembered_lastOf 10 rfl) ?_
    refine j_istoren (L' := [(2, vi (gi G 23 5)), (0, rf X 23), (1, vi a1)]) (D_Remembered_lastOf 11 rfl) rfl (wr_gi _ _ _) (by decide) rfl ?_
    refine j_iconst (v := 0) (D_Remembered_lastOf 12 rfl) rfl ?_
    refine j_istoren (L' := [(3, vi 0), (2, vi (gi G 23 5)), (0, rf X 23), (1, vi a1)]) (D_Remembered_lastOf 13 rfl) rfl (wr_lit rfl) (by decide) rfl ?_
    refine j_loc [2, 3, 1, 0] rfl ?_
    exact s_Remembered_lastOf_L26 FU (ha1) (wr_gi _ _ _) (wr_lit rfl) h
  · replace h := ite_t h c1
    refine j_sipush (v := 29999) (D_Remembered_lastOf 7 rfl) rfl ?_
    exact j_iret (D_Remembered_lastOf 8 rfl) rfl (wr_lit rfl) rfl rfl (leafIo h (wr_n (wr_lit rfl)))
abbrev M_Remembered_isUnbroken : MI := (⟨"InquestHall$Remembered", "isUnbroken", "(I)Z"⟩, prog_10_method_10_code, 4, (some .boolean))
theorem cw_Remembered_isUnbroken : Cond.code M_Remembered_isUnbroken.1 M_Remembered_isUnbroken.2.1 M_Remembered_isUnbroken.2.2.1 M_Remembered_isUnbroken.2.2.2 ∈ TS := mTS (List.mem_of_getElem? (i := 1227) (by decide +kernel)) (by decide +kernel)
theorem fa_Remembered_64 : FA "InquestHall$Remembered" 64 5 6 false .int := ⟨_, _, _, _, ok_Remembered, by decide, mTS (List.mem_of_getElem? (i := 382) (by decide +kernel)) (by decide +kernel), rfl, rfl⟩
def tb_Remembered_isUnbroken : List (Nat × Instr × Nat) := [(0, .iconst 0, 1), (1, .istore_n 2, 1), (2, .iload_n 2, 1), (3, .aload_n 0, 1), (4, .getfield 17, 3), (7, .iload_n 1, 1), (8, .iaload, 1), (9, .if_icmp .ge 49, 3), (12, .aload_n 0, 1), (13, .iload_n 1, 1), (14, .iload_n 2, 1), (15, .invokevirtual 39, 3), (18, .iconst 1, 1), (19, .iadd, 1), (20, .istore_n 3, 1), (21, .iload_n 3, 1), (22, .aload_n 0, 1), (23, .getfield 46, 3), (26, .if_icmp .le 26, 3), (29, .iload_n 3, 1), (30, .aload_n 0, 1), (31, .getfield 64, 3), (34, .if_icmp .gt 18, 3), (37, .aload_n 0, 1), (38, .iload_n 1, 1), (39, .iload_n 3, 1), (40, .invokevirtual 50, 3), (43, .aload_n 0, 1), (44, .getfield 53, 3), (47, .if_icmp .eq 5, 3), (50, .iconst 0, 1), (51, .ireturn, 1), (52, .iinc 2 1, 3), (55, .goto (-53), 3), (58, .iconst 1, 1), (59, .ireturn, 1)]
theorem D_Remembered_isUnbroken (i : Nat) {pc len : Nat} {ins : Instr} (hi : tb_Remembered_isUnbroken[i]? = some (pc, ins, len)) : decode M_Remembered_isUnbroken.2.1 pc = .ok (ins, len) := dec_of (by decide +kernel) i hi
def f_Remembered_isUnbroken_L52 (G : GS) (k2 : Int → Int → Option (Int)) (x1 : Int) (x2 : Int) : Option (Int) :=
  k2 x1 (wr (x2 + 1))
theorem s_Remembered_isUnbroken_L52 {X : XT} {G : GS} {r : Int} {k2 : Int → Int → Option (Int)} (hk2 : ∀ {x1 : Int} {x2 : Int} , wr x1 = x1 → wr x2 = x2 → k2 x1 x2 = some r → J X true 9 0 0 M_Remembered_isUnbroken (Rz r G) NC 0 0 2 [(0, rf X 23), (1, vi x1), (2, vi x2)] [] G) : ∀ {x1 : Int} {x2 : Int}, wr x1 = x1 → wr x2 = x2 → f_Remembered_isUnbroken_L52 G k2 x1 x2 = some r → J X true 9 0 0 M_Remembered_isUnbroken (Rz r G) NC 0 0 52 [(0, rf X 23), (1, vi x1), (2, vi x2)] [] G := by
  intro x1 x2 hx1 hx2 h
  unfold f_Remembered_isUnbroken_L52 at h
  refine j_iinc (k := 2) (L' := [(2, vi (wr (x2 + 1))), (0, rf X 23), (1, vi x1)]) (D_Remembered_isUnbroken 32 rfl) rfl rfl (by decide) rfl ?_
  refine j_goto (tgt := 2) (D_Remembered_isUnbroken 33 rfl) rfl ?_
  refine j_loc [1, 2, 0] rfl ?_
  exact hk2 (hx1) (wr_wr _) h
def f_Remembered_isUnbroken_L2 (G : GS) : Nat → Int → Int → Option (Int)
  | 0, _, _ => none
  | n + 1, x1, x2 =>
    gd (0 ≤ x1 ∧ x1 < 32) <|
    if gi G 25 x1.toNat ≤ x2 then
      some 1
    else
      (f_Remembered_highOf G x1 x2).bind fun q1 =>
      if wr (q1 + 1) ≤ gi G 23 5 then
        f_Remembered_isUnbroken_L52 G (f_Remembered_isUnbroken_L2 G n) x1 x2
      else
        if gi G 23 6 < wr (q1 + 1) then
          f_Remembered_isUnbroken_L52 G (f_Remembered_isUnbroken_L2 G n) x1 x2
        else
          (f_Remembered_agreeing G x1 (wr (q1 + 1))).bind fun q2 =>
          if q2 = gi G 23 7 then
            f_Remembered_isUnbroken_L52 G (f_Remembered_isUnbroken_L2 G n) x1 x2
          else
            some 0
theorem s_Remembered_isUnbroken_L2 {X : XT} {G : GS} {r : Int} : ∀ (n : Nat) {x1 : Int} {x2 : Int}, wr x1 = x1 → wr x2 = x2 → f_Remembered_isUnbroken_L2 G n x1 x2 = some r → J X true 9 0 0 M_Remembered_isUnbroken (Rz r G) NC 0 0 2 [(0, rf X 23), (1, vi x1), (2, vi x2)] [] G := by
  intro n
  induction n with
  | zero =>
    intro x1 x2 hx1 hx2 h
    exact none_some h
  | succ n ih =>
    intro x1 x2 hx1 hx2 h
    rw [f_Remembered_isUnbroken_L2] at h
    refine j_iloadn (k := 2) (D_Remembered_isUnbroken 2 rfl) rfl rfl ?_
    refine j_aloadn (k := 0) (D_Remembered_isUnbroken 3 rfl) rfl rfl ?_
    refine j_getR rfl fa_Remembered_17 kd_23 lc_23 (by decide) rfl fx_23_1 (by decide) (D_Remembered_isUnbroken 4 rfl) ?_
    refine j_iloadn (k := 1) (D_Remembered_isUnbroken 5 rfl) rfl rfl ?_
    have g1 := gd_c h
    replace h := gd_s h
    refine j_iald (NI := 32) (D_Remembered_isUnbroken 6 rfl) kd_25 lc_25 (hx1) rfl g1.1 g1.2 ?_
    refine j_ic_ge (tgt := 58) (D_Remembered_isUnbroken 7 rfl) rfl (hx2) (wr_gi _ _ _) (fun c1 => ?_) (fun c1 => ?_)
    · replace h := ite_t h c1
      refine j_iconst (v := 1) (D_Remembered_isUnbroken 34 rfl) rfl ?_
      exact j_zret (D_Remembered_isUnbroken 35 rfl) rfl (wr_lit rfl) (nz_01 (by decide)) rfl rfl (leafZo h (wr_n (wr_lit rfl)) (by decide))
    · replace h := ite_f h c1
      refine j_aloadn (k := 0) (D_Remembered_isUnbroken 8 rfl) rfl rfl ?_
      refine j_iloadn (k := 1) (D_Remembered_isUnbroken 9 rfl) rfl rfl ?_
      refine j_iloadn (k := 2) (D_Remembered_isUnbroken 10 rfl) rfl rfl ?_
      obtain ⟨q1, e1, h⟩ := Option.bind_eq_some_iff.mp h
      refine j_cVi (c_Remembered_highOf (hx1) (hx2) e1) rfl lk_Remembered_39 mok_Remembered_highOf kd_23 lc_23 rfl (by decide) rfl rfl (Nat.le_of_ble_eq_true rfl) (D_Remembered_isUnbroken 11 rfl) (fun w1 => ?_)
      refine j_iconst (v := 1) (D_Remembered_isUnbroken 12 rfl) rfl ?_
      refine j_iadd (D_Remembered_isUnbroken 13 rfl) ?_
      refine j_istoren (L' := [(3, vi (wr (q1 + 1))), (0, rf X 23), (1, vi x1), (2, vi x2)]) (D_Remembered_isUnbroken 14 rfl) rfl (rfl) (by decide) rfl ?_
      refine j_iloadn (k := 0) (D_Remembered_isUnbroken 15 rfl) rfl rfl ?_
      refine j_aloadn (k := 1) (D_Remembered_isUnbroken 16 rfl) rfl rfl ?_
      refine j_getI rfl fa_Remembered_46 kd_23 lc_23 (by decide) rfl (D_Remembered_isUnbroken 17 rfl) ?_
      refine j_ic_le (tgt := 52) (D_Remembered_isUnbroken 18 rfl) rfl (wr_wr _) (wr_gi _ _ _) (fun c2 => ?_) (fun c2 => ?_)
      · replace h := ite_t h c2
        refine j_loc [1, 2, 3] rfl ?_
        exact s_Remembered_isUnbroken_L52 ih (hx1) (hx2) h
      · replace h := ite_f h c2
        refine j_iloadn (k := 0) (D_Remembered_isUnbroken 19 rfl) rfl rfl ?_
        refine j_aloadn (k := 1) (D_Remembered_isUnbroken 20 rfl) rfl rfl ?_
        refine j_getI rfl fa_Remembered_64 kd_23 lc_23 (by decide) rfl (D_Remembered_isUnbroken 21 rfl) ?_
        refine j_ic_gt (tgt := 52) (D_Remembered_isUnbroken 22 rfl) rfl (wr_wr _) (wr_gi _ _ _) (fun c3 => ?_) (fun c3 => ?_)
        · replace h := ite_t h c3
          refine j_loc [1, 2, 3] rfl ?_
          exact s_Remembered_isUnbroken_L52 ih (hx1) (hx2) h
        · replace h := ite_f h c3
          refine j_aloadn (k := 1) (D_Remembered_isUnbroken 23 rfl) rfl rfl ?_
          refine j_iloadn (k := 2) (D_Remembered_isUnbroken 24 rfl) rfl rfl ?_
          refine j_iloadn (k := 0) (D_Remembered_isUnbroken 25 rfl) rfl rfl ?_
          obtain ⟨q2, e2, h⟩ := Option.bind_eq_some_iff.mp h
          refine j_cVi (c_Remembered_agreeing (hx1) (wr_wr _) e2) rfl lk_Remembered_50 mok_Remembered_agreeing kd_23 lc_23 rfl (by decide) rfl rfl (Nat.le_of_ble_eq_true rfl) (D_Remembered_isUnbroken 26 rfl) (fun w2 => ?_)
          refine j_aloadn (k := 1) (D_Remembered_isUnbroken 27 rfl) rfl rfl ?_
          refine j_getI rfl fa_Remembered_53 kd_23 lc_23 (by decide) rfl (D_Remembered_isUnbroken 28 rfl) ?_
          refine j_ic_eq (tgt := 52) (D_Remembered_isUnbroken 29 rfl) rfl (w2) (wr_gi _ _ _) (fun c4 => ?_) (fun c4 => ?_)
          · replace h := ite_t h c4
            refine j_loc [1, 2, 3] rfl ?_
            exact s_Remembered_isUnbroken_L52 ih (hx1) (hx2) h
          · replace h := ite_f h c4
            refine j_iconst (v := 0) (D_Remembered_isUnbroken 30 rfl) rfl ?_
            exact j_zret (D_Remembered_isUnbroken 31 rfl) rfl (wr_lit rfl) (nz_01 (by decide)) rfl rfl (leafZo h (wr_n (wr_lit rfl)) (by decide))
def f_Remembered_isUnbroken (G : GS) (a1 : Int) : Option (Int) :=
  f_Remembered_isUnbroken_L2 G FU a1 0
theorem c_Remembered_isUnbroken {X : XT} {G : GS} {a1 : Int} {r : Int} (ha1 : wr a1 = a1) (h : f_Remembered_isUnbroken G a1 = some r) : Call X true 9 0 0 M_Remembered_isUnbroken [rf X 23, vi a1] NC G (Rz r G) := by
  refine Call_of_J cw_Remembered_isUnbroken (by decide +kernel) (Nat.le_of_ble_eq_true rfl) ?_
  unfold f_Remembered_isUnbroken at h
  show J X true 9 0 0 M_Remembered_isUnbroken (Rz r G) NC 0 0 0 [(0, rf X 23), (1, vi a1)] [] G
  refine j_iconst (v := 0) (D_Remembered_isUnbroken 0 rfl) rfl ?_
  refine j_istoren (L' := [(2, vi 0), (0, rf X 23), (1, vi a1)]) (D_Remembered_isUnbroken 1 rfl) rfl (wr_lit rfl) (by decide) rfl ?_
  refine j_loc [1, 2, 0] rfl ?_
  exact s_Remembered_isUnbroken_L2 FU (ha1) (wr_lit rfl) h
abbrev M_Remembered_prove : MI := (⟨"InquestHall$Remembered", "prove", "(I)V"⟩, prog_10_method_8_code, 5, none)
theorem cw_Remembered_prove : Cond.code M_Remembered_prove.1 M_Remembered_prove.2.1 M_Remembered_prove.2.2.1 M_Remembered_prove.2.2.2 ∈ TS := mTS (List.mem_of_getElem? (i := 1202) (by decide +kernel)) (by decide +kernel)
theorem lk_Remembered_60 : Cond.methodLink "InquestHall$Remembered" 60 M_Remembered_lastOf.1 ∈ TS := mTS (List.mem_of_getElem? (i := 1220) (by decide +kernel)) (by decide +kernel)
theorem mok_Remembered_lastOf : MOK M_Remembered_lastOf 1 := ⟨mTS (List.mem_of_getElem? (i := 1222) (by decide +kernel)) (by decide +kernel), mTS (List.mem_of_getElem? (i := 53) (by decide +kernel)) (by decide +kernel), mTS (List.mem_of_getElem? (i := 131) (by decide +kernel)) (by decide +kernel), cw_Remembered_lastOf, ⟨by decide, by decide, by decide +kernel⟩, by decide +kernel, by decide⟩
theorem lk_Remembered_67 : Cond.methodLink "InquestHall$Remembered" 67 M_Remembered_isUnbroken.1 ∈ TS := mTS (List.mem_of_getElem? (i := 1224) (by decide +kernel)) (by decide +kernel)
theorem mok_Remembered_isUnbroken : MOK M_Remembered_isUnbroken 1 := ⟨mTS (List.mem_of_getElem? (i := 1226) (by decide +kernel)) (by decide +kernel), mTS (List.mem_of_getElem? (i := 54) (by decide +kernel)) (by decide +kernel), mTS (List.mem_of_getElem? (i := 131) (by decide +kernel)) (by decide +kernel), cw_Remembered_isUnbroken, ⟨by decide, by decide, by decide +kernel⟩, by decide +kernel, by decide⟩
theorem fa_Remembered_70 : FA "InquestHall$Remembered" 70 5 8 false .boolean := ⟨_, _, _, _, ok_Remembered, by decide, mTS (List.mem_of_getElem? (i := 386) (by decide +kernel)) (by decide +kernel), rfl, rfl⟩
def tb_Remembered_prove : List (Nat × Instr × Nat) := [(0, .aload_n 0, 1), (1, .iconst 0, 1), (2, .putfield 46, 3), (5, .aload_n 0, 1), (6, .aload_n 0, 1), (7, .iload_n 1, 1), (8, .iconst 0, 1), (9, .invokevirtual 50, 3), (12, .putfield 53, 3), (15, .iconst 0, 1), (16, .istore_n 2, 1), (17, .iload_n 2, 1), (18, .aload_n 0, 1), (19, .getfield 17, 3), (22, .iload_n 1, 1), (23, .iaload, 1), (24, .if_icmp .ge 72, 3), (27, .aload_n 0, 1), (28, .iload_n 1, 1), (29, .iload_n 2, 1), (30, .invokevirtual 35, 3), (33, .istore_n 3, 1), (34, .iload_n 3, 1), (35, .invokestatic 56, 3), (38, .ifCond .eq 12, 3), (41, .aload_n 0, 1), (42, .iload_n 1, 1), (43, .iload_n 3, 1), (44, .invokevirtual 50, 3), (47, .goto 4, 3), (50, .iconst (-1), 1), (51, .istore 4, 2), (53, .iload 4, 2), (55, .aload_n 0, 1), (56, .getfield 53, 3), (59, .if_icmp .gt 20, 3), (62, .iload 4, 2), (64, .aload_n 0, 1), (65, .getfield 53, 3), (68, .if_icmp .ne 22, 3), (71, .iload_n 3, 1), (72, .aload_n 0, 1), (73, .getfield 46, 3), (76, .if_icmp .ge 14, 3), (79, .aload_n 0, 1), (80, .iload 4, 2), (82, .putfield 53, 3), (85, .aload_n 0, 1), (86, .iload_n 3, 1), (87, .putfield 46, 3), (90, .iinc 2 1, 3), (93, .goto (-76), 3), (96, .aload_n 0, 1), (97, .aload_n 0, 1), (98, .iload_n 1, 1), (99, .invokevirtual 60, 3), (102, .putfield 64, 3), (105, .aload_n 0, 1), (106, .aload_n 0, 1), (107, .getfield 53, 3), (110, .ifCond .le 15, 3), (113, .aload_n 0, 1), (114, .iload_n 1, 1), (115, .invokevirtual 67, 3), (118, .ifCond .eq 7, 3), (121, .iconst 1, 1), (122, .goto 4, 3), (125, .iconst 0, 1), (126, .putfield 70, 3), (129, .return_, 1)]
theorem D_Remembered_prove (i : Nat) {pc len : Nat} {ins : Instr} (hi : tb_Remembered_prove[i]? = some (pc, ins, len)) : decode M_Remembered_prove.2.1 pc = .ok (ins, len) := dec_of (by decide +kernel) i hi
def f_Remembered_prove_L126 (G : GS) (s0 : Int) : Option (GS) :=
  gd (s0 = 0 ∨ s0 = 1) <|
  wG (si G 23 8 s0) fun G1 =>
  some G1
theorem s_Remembered_prove_L126 {X : XT} {r : GS} : ∀ {G : GS} {s0 : Int}, wr s0 = s0 → f_Remembered_prove_L126 G s0 = some r → J X true 10 0 0 M_Remembered_prove (Rv r) NC 0 0 126 [(0, rf X 23)] [vi s0, rf X 23] G := by
  intro G s0 hs0 h
  unfold f_Remembered_prove_L126 at h
  have g1 := gd_c h
  replace h := gd_s h
  refine j_putZ rfl fa_Remembered_70 kd_23 lc_23 (by decide) rfl (hs0) g1 (D_Remembered_prove 68 rfl) ?_
  refine j_gen (fun G1 e1 => ?_)
  replace h := wG_at h e1
  exact j_vret (D_Remembered_prove 69 rfl) rfl rfl rfl (leafV h)
def f_Remembered_prove_L125 (G : GS) : Option (GS) :=
  f_Remembered_prove_L126 G 0
theorem s_Remembered_prove_L125 {X : XT} {r : GS} : ∀ {G : GS}, f_Remembered_prove_L125 G = some r → J X true 10 0 0 M_Remembered_prove (Rv r) NC 0 0 125 [(0, rf X 23)] [rf X 23] G := by
  intro G h
  unfold f_Remembered_prove_L125 at h
  refine j_iconst (v := 0) (D_Remembered_prove 67 rfl) rfl ?_
  refine j_loc [0] rfl ?_
  exact s_Remembered_prove_L126 (wr_lit rfl) h
def f_Remembered_prove_L90 (k17 : GS → Int → Int → Option (GS)) (G : GS) (x1 : Int) (x2 : Int) : Option (GS) :=
  k17 G x1 (wr (x2 + 1))
theorem s_Remembered_prove_L90 {X : XT} {r : GS} {k17 : GS → Int → Int → Option (GS)} (hk17 : ∀ {G : GS} {x1 : Int} {x2 : Int} , wr x1 = x1 → wr x2 = x2 → k17 G x1 x2 = some r → J X true 10 0 0 M_Remembered_prove (Rv r) NC 0 0 17 [(0, rf X 23), (1, vi x1), (2, vi x2)] [] G) : ∀ {G : GS} {x1 : Int} {x2 : Int}, wr x1 = x1 → wr x2 = x2 → f_Remembered_prove_L90 k17 G x1 x2 = some r → J X true 10 0 0 M_Remembered_prove (Rv r) NC 0 0 90 [(0, rf X 23), (1, vi x1), (2, vi x2)] [] G := by
  intro G x1 x2 hx1 hx2 h
  unfold f_Remembered_prove_L90 at h
  refine j_iinc (k := 2) (L' := [(2, vi (wr (x2 + 1))), (0, rf X 23), (1, vi x1)]) (D_Remembered_prove 50 rfl) rfl rfl (by decide) rfl ?_
  refine j_goto (tgt := 17) (D_Remembered_prove 51 rfl) rfl ?_
  refine j_loc [1, 2, 0] rfl ?_
  exact hk17 (hx1) (wr_wr _) h
def f_Remembered_prove_L79 (k17 : GS → Int → Int → Option (GS)) (G : GS) (x1 : Int) (x2 : Int) (x3 : Int) (x4 : Int) : Option (GS) :=
  wG (si G 23 7 x4) fun G1 =>
  wG (si G1 23 5 x3) fun G2 =>
  f_Remembered_prove_L90 k17 G2 x1 x2
theorem s_Remembered_prove_L79 {X : XT} {r : GS} {k17 : GS → Int → Int → Option (GS)} (hk17 : ∀ {G : GS} {x1 : Int} {x2 : Int} , wr x1 = x1 → wr x2 = x2 → k17 G x1 x2 = some r → J X true 10 0 0 M_Remembered_prove (Rv r) NC 0 0 17 [(0, rf X 23), (1, vi x1), (2, vi x2)] [] G) : ∀ {G : GS} {x1 : Int} {x2 : Int} {x3 : Int} {x4 : Int}, wr x1 = x1 → wr x2 = x2 → wr x3 = x3 → wr x4 = x4 → f_Remembered_prove_L79 k17 G x1 x2 x3 x4 = some r → J X true 10 0 0 M_Remembered_prove (Rv r) NC 0 0 79 [(0, rf X 23), (1, vi x1), (2, vi x2), (3, vi x3), (4, vi x4)] [] G := by
  intro G x1 x2 x3 x4 hx1 hx2 hx3 hx4 h
  unfold f_Remembered_prove_L79 at h
  refine j_aloadn (k := 0) (D_Remembered_prove 44 rfl) rfl rfl ?_
  refine j_iload (k := 4) (D_Remembered_prove 45 rfl) rfl ?_
  refine j_putI rfl fa_Remembered_53 kd_23 lc_23 (by decide) rfl (D_Remembered_prove 46 rfl) ?_
  refine j_gen (fun G1 e1 => ?_)
  replace h := wG_at h e1
  refine j_aloadn (k := 0) (D_Remembered_prove 47 rfl) rfl rfl ?_
  refine j_iloadn (k := 3) (D_Remembered_prove 48 rfl) rfl rfl ?_
  refine j_putI rfl fa_Remembered_46 kd_23 lc_23 (by decide) rfl (D_Remembered_prove 49 rfl) ?_
  refine j_gen (fun G2 e2 => ?_)
  replace h := wG_at h e2
  refine j_loc [0, 1, 2] rfl ?_
  exact s_Remembered_prove_L90 hk17 (hx1) (hx2) h
def f_Remembered_prove_L51 (k17 : GS → Int → Int → Option (GS)) (G : GS) (x1 : Int) (x2 : Int) (x3 : Int) (s0 : Int) : Option (GS) :=
  if gi G 23 7 < s0 then
    f_Remembered_prove_L79 k17 G x1 x2 x3 s0
  else
    if s0 = gi G 23 7 then
      if gi G 23 5 ≤ x3 then
        f_Remembered_prove_L90 k17 G x1 x2
      else
        f_Remembered_prove_L79 k17 G x1 x2 x3 s0
    else
      f_Remembered_prove_L90 k17 G x1 x2
theorem s_Remembered_prove_L51 {X : XT} {r : GS} {k17 : GS → Int → Int → Option (GS)} (hk17 : ∀ {G : GS} {x1 : Int} {x2 : Int} , wr x1 = x1 → wr x2 = x2 → k17 G x1 x2 = some r → J X true 10 0 0 M_Remembered_prove (Rv r) NC 0 0 17 [(0, rf X 23), (1, vi x1), (2, vi x2)] [] G) : ∀ {G : GS} {x1 : Int} {x2 : Int} {x3 : Int} {s0 : Int}, wr x1 = x1 → wr x2 = x2 → wr x3 = x3 → wr s0 = s0 → f_Remembered_prove_L51 k17 G x1 x2 x3 s0 = some r → J X true 10 0 0 M_Remembered_prove (Rv r) NC 0 0 51 [(0, rf X 23), (1, vi x1), (2, vi x2), (3, vi x3)] [vi s0] G := by
  intro G x1 x2 x3 s0 hx1 hx2 hx3 hs0 h
  unfold f_Remembered_prove_L51 at h
  refine j_istore (L' := [(4, vi s0), (0, rf X 23), (1, vi x1), (2, vi x2), (3, vi x3)]) (D_Remembered_prove 31 rfl) (hs0) (by decide) rfl ?_
  refine j_iload (k := 0) (D_Remembered_prove 32 rfl) rfl ?_
  refine j_aloadn (k := 1) (D_Remembered_prove 33 rfl) rfl rfl ?_
  refine j_getI rfl fa_Remembered_53 kd_23 lc_23 (by decide) rfl (D_Remembered_prove 34 rfl) ?_
  refine j_ic_gt (tgt := 79) (D_Remembered_prove 35 rfl) rfl (hs0) (wr_gi _ _ _) (fun c1 => ?_) (fun c1 => ?_)
  · replace h := ite_t h c1
    refine j_loc [1, 2, 3, 4, 0] rfl ?_
    exact s_Remembered_prove_L79 hk17 (hx1) (hx2) (hx3) (hs0) h
  · replace h := ite_f h c1
    refine j_iload (k := 0) (D_Remembered_prove 36 rfl) rfl ?_
    refine j_aloadn (k := 1) (D_Remembered_prove 37 rfl) rfl rfl ?_
    refine j_getI rfl fa_Remembered_53 kd_23 lc_23 (by decide) rfl (D_Remembered_prove 38 rfl) ?_
    refine j_ic_ne (tgt := 90) (D_Remembered_prove 39 rfl) rfl (hs0) (wr_gi _ _ _) (fun c2 => ?_) (fun c2 => ?_)
    · replace h := ite_f h c2
      refine j_loc [1, 2, 3] rfl ?_
      exact s_Remembered_prove_L90 hk17 (hx1) (hx2) h
    · replace h := ite_t h c2
      refine j_iloadn (k := 4) (D_Remembered_prove 40 rfl) rfl rfl ?_
      refine j_aloadn (k := 1) (D_Remembered_prove 41 rfl) rfl rfl ?_
      refine j_getI rfl fa_Remembered_46 kd_23 lc_23 (by decide) rfl (D_Remembered_prove 42 rfl) ?_
      refine j_ic_ge (tgt := 90) (D_Remembered_prove 43 rfl) rfl (hx3) (wr_gi _ _ _) (fun c3 => ?_) (fun c3 => ?_)
      · replace h := ite_t h c3
        refine j_loc [1, 2, 3] rfl ?_
        exact s_Remembered_prove_L90 hk17 (hx1) (hx2) h
      · replace h := ite_f h c3
        refine j_loc [1, 2, 3, 4, 0] rfl ?_
        exact s_Remembered_prove_L79 hk17 (hx1) (hx2) (hx3) (hs0) h
def f_Remembered_prove_L17 : Nat → GS → Int → Int → Option (GS)
  | 0, _, _, _ => none
  | n + 1, G, x1, x2 =>
    gd (0 ≤ x1 ∧ x1 < 32) <|
    if gi G 25 x1.toNat ≤ x2 then
      (f_Remembered_lastOf G x1).bind fun q1 =>
      wG (si G 23 6 q1) fun G1 =>
      if gi G1 23 7 ≤ 0 then
        f_Remembered_prove_L125 G1
      else
        (f_Remembered_isUnbroken G1 x1).bind fun q2 =>
        if q2 = 0 then
          f_Remembered_prove_L125 G1
        else
          f_Remembered_prove_L126 G1 1
    else
      (f_Remembered_lowOf G x1 x2).bind fun q3 =>
      (f_Hall_isDay G q3).bind fun q4 =>
      if q4 = 0 then
        f_Remembered_prove_L51 (f_Remembered_prove_L17 n) G x1 x2 q3 (-1)
      else
        (f_Remembered_agreeing G x1 q3).bind fun q5 =>
        f_Remembered_prove_L51 (f_Remembered_prove_L17 n) G x1 x2 q3 q5
theorem s_Remembered_prove_L17 {X : XT} {r : GS} : ∀ (n : Nat) {G : GS} {x1 : Int} {x2 : Int}, wr x1 = x1 → wr x2 = x2 → f_Remembered_prove_L17 n G x1 x2 = some r → J X true 10 0 0 M_Remembered_prove (Rv r) NC 0 0 17 [(0, rf X 23), (1, vi x1), (2, vi x2)] [] G := by
  intro n
  induction n with
  | zero =>
    intro G x1 x2 hx1 hx2 h
    exact none_some h
  | succ n ih =>
    intro G x1 x2 hx1 hx2 h
    rw [f_Remembered_prove_L17] at h
    refine j_iloadn (k := 2) (D_Remembered_prove 11 rfl) rfl rfl ?_
    refine j_aloadn (k := 0) (D_Remembered_prove 12 rfl) rfl rfl ?_
    refine j_getR rfl fa_Remembered_17 kd_23 lc_23 (by decide) rfl fx_23_1 (by decide) (D_Remembered_prove 13 rfl) ?_
    refine j_iloadn (k := 1) (D_Remembered_prove 14 rfl) rfl rfl ?_
    have g1 := gd_c h
    replace h := gd_s h
    refine j_iald (NI := 32) (D_Remembered_prove 15 rfl) kd_25 lc_25 (hx1) rfl g1.1 g1.2 ?_
    refine j_ic_ge (tgt := 96) (D_Remembered_prove 16 rfl) rfl (hx2) (wr_gi _ _ _) (fun c1 => ?_) (fun c1 => ?_)
    · replace h := ite_t h c1
      refine j_aloadn (k := 0) (D_Remembered_prove 52 rfl) rfl rfl ?_
      refine j_aloadn (k := 0) (D_Remembered_prove 53 rfl) rfl rfl ?_
      refine j_iloadn (k := 1) (D_Remembered_prove 54 rfl) rfl rfl ?_
      obtain ⟨q1, e1, h⟩ := Option.bind_eq_some_iff.mp h
      refine j_cVi (c_Remembered_lastOf (hx1) e1) rfl lk_Remembered_60 mok_Remembered_lastOf kd_23 lc_23 rfl (by decide) rfl rfl (Nat.le_of_ble_eq_true rfl) (D_Remembered_prove 55 rfl) (fun w1 => ?_)
      refine j_putI rfl fa_Remembered_64 kd_23 lc_23 (by decide) rfl (D_Remembered_prove 56 rfl) ?_
      refine j_gen (fun G1 e2 => ?_)
      replace h := wG_at h e2
      refine j_aloadn (k := 0) (D_Remembered_prove 57 rfl) rfl rfl ?_
      refine j_aloadn (k := 0) (D_Remembered_prove 58 rfl) rfl rfl ?_
      refine j_getI rfl fa_Remembered_53 kd_23 lc_23 (by decide) rfl (D_Remembered_prove 59 rfl) ?_
      refine j_if_le (tgt := 125) (D_Remembered_prove 60 rfl) rfl (wr_gi _ _ _) (fun c2 => ?_) (fun c2 => ?_)
      · replace h := ite_t h c2
        refine j_loc [0] rfl ?_
        exact s_Remembered_prove_L125 h
      · replace h := ite_f h c2
        refine j_aloadn (k := 0) (D_Remembered_prove 61 rfl) rfl rfl ?_
        refine j_iloadn (k := 1) (D_Remembered_prove 62 rfl) rfl rfl ?_
        obtain ⟨q2, e3, h⟩ := Option.bind_eq_some_iff.mp h
        refine j_cVz (c_Remembered_isUnbroken (hx1) e3) rfl lk_Remembered_67 mok_Remembered_isUnbroken kd_23 lc_23 rfl (by decide) rfl rfl (Nat.le_of_ble_eq_true rfl) (D_Remembered_prove 63 rfl) (fun w2 bw2 => ?_)
        refine j_if_eq (tgt := 125) (D_Remembered_prove 64 rfl) rfl (w2) (fun c3 => ?_) (fun c3 => ?_)
        · replace h := ite_t h c3
          refine j_loc [0] rfl ?_
          exact s_Remembered_prove_L125 h
        · replace h := ite_f h c3
          refine j_iconst (v := 1) (D_Remembered_prove 65 rfl) rfl ?_
          refine j_goto (tgt := 126) (D_Remembered_prove 66 rfl) rfl ?_
          refine j_loc [0] rfl ?_
          exact s_Remembered_prove_L126 (wr_lit rfl) h
    · replace h := ite_f h c1
      refine j_aloadn (k := 0) (D_Remembered_prove 17 rfl) rfl rfl ?_
      refine j_iloadn (k := 1) (D_Remembered_prove 18 rfl) rfl rfl ?_
      refine j_iloadn (k := 2) (D_Remembered_prove 19 rfl) rfl rfl ?_
      obtain ⟨q3, e4, h⟩ := Option.bind_eq_some_iff.mp h
      refine j_cVi (c_Remembered_lowOf (hx1) (hx2) e4) rfl lk_Remembered_35 mok_Remembered_lowOf kd_23 lc_23 rfl (by decide) rfl rfl (Nat.le_of_ble_eq_true rfl) (D_Remembered_prove 20 rfl) (fun w3 => ?_)
      refine j_istoren (L' := [(3, vi q3), (0, rf X 23), (1, vi x1), (2, vi x2)]) (D_Remembered_prove 21 rfl) rfl (w3) (by decide) rfl ?_
      refine j_iloadn (k := 0) (D_Remembered_prove 22 rfl) rfl rfl ?_
      obtain ⟨q4, e5, h⟩ := Option.bind_eq_some_iff.mp h
      refine j_cSNz (c_Hall_isDay (w3) e5) rfl (by decide : ("InquestHall$Remembered", 56, M_Hall_isDay.1, "InquestHall") ∈ nestL) sok_Hall_isDay (by decide) rfl rfl (Nat.le_of_ble_eq_true rfl) (D_Remembered_prove 23 rfl) (fun w4 bw4 => ?_)
      refine j_if_eq (tgt := 50) (D_Remembered_prove 24 rfl) rfl (w4) (fun c4 => ?_) (fun c4 => ?_)
      · replace h := ite_t h c4
        refine j_iconst (v := (-1)) (D_Remembered_prove 30 rfl) rfl ?_
        refine j_loc [1, 2, 3, 0] rfl ?_
        exact s_Remembered_prove_L51 ih (hx1) (hx2) (w3) (wr_lit rfl) h
      · replace h := ite_f h c4
        refine j_aloadn (k := 1) (D_Remembered_prove 25 rfl) rfl rfl ?_
        refine j_iloadn (k := 2) (D_Remembered_prove 26 rfl) rfl rfl ?_
        refine j_iloadn (k := 0) (D_Remembered_prove 27 rfl) rfl rfl ?_
        obtain ⟨q5, e6, h⟩ := Option.bind_eq_some_iff.mp h
        refine j_cVi (c_Remembered_agreeing (hx1) (w3) e6) rfl lk_Remembered_50 mok_Remembered_agreeing kd_23 lc_23 rfl (by decide) rfl rfl (Nat.le_of_ble_eq_true rfl) (D_Remembered_prove 28 rfl) (fun w5 => ?_)
        refine j_goto (tgt := 51) (D_Remembered_prove 29 rfl) rfl ?_
        refine j_loc [1, 2, 3, 0] rfl ?_
        exact s_Remembered_prove_L51 ih (hx1) (hx2) (w3) (w5) h
def f_Remembered_prove (G : GS) (a1 : Int) : Option (GS) :=
  wG (si G 23 5 0) fun G1 =>
  (f_Remembered_agreeing G1 a1 0).bind fun q1 =>
  wG (si G1 23 7 q1) fun G2 =>
  f_Remembered_prove_L17 FU G2 a1 0
theorem c_Remembered_prove {X : XT} {G : GS} {a1 : Int} {r : GS} (ha1 : wr a1 = a1) (h : f_Remembered_prove G a1 = some r) : Call X true 10 0 0 M_Remembered_prove [rf X 23, vi a1] NC G (Rv r) := by
  refine Call_of_J cw_Remembered_prove (by decide +kernel) (Nat.le_of_ble_eq_true rfl) ?_
  unfold f_Remembered_prove at h
  show J X true 10 0 0 M_Remembered_prove (Rv r) NC 0 0 0 [(0, rf X 23), (1, vi a1)] [] G
  refine j_aloadn (k := 0) (D_Remembered_prove 0 rfl) rfl rfl ?_
  refine j_iconst (v := 0) (D_Remembered_prove 1 rfl) rfl ?_
  refine j_putI rfl fa_Remembered_46 kd_23 lc_23 (by decide) rfl (D_Remembered_prove 2 rfl) ?_
  refine j_gen (fun G1 e1 => ?_)
  replace h := wG_at h e1
  refine j_aloadn (k := 0) (D_Remembered_prove 3 rfl) rfl rfl ?_
  refine j_aloadn (k := 0) (D_Remembered_prove 4 rfl) rfl rfl ?_
  refine j_iloadn (k := 1) (D_Remembered_prove 5 rfl) rfl rfl ?_
  refine j_iconst (v := 0) (D_Remembered_prove 6 rfl) rfl ?_
  obtain ⟨q1, e2, h⟩ := Option.bind_eq_some_iff.mp h
  refine j_cVi (c_Remembered_agreeing (ha1) (wr_lit rfl) e2) rfl lk_Remembered_50 mok_Remembered_agreeing kd_23 lc_23 rfl (by decide) rfl rfl (Nat.le_of_ble_eq_true rfl) (D_Remembered_prove 7 rfl) (fun w1 => ?_)
  refine j_putI rfl fa_Remembered_53 kd_23 lc_23 (by decide) rfl (D_Remembered_prove 8 rfl) ?_
  refine j_gen (fun G2 e3 => ?_)
  replace h := wG_at h e3
  refine j_iconst (v := 0) (D_Remembered_prove 9 rfl) rfl ?_
  refine j_istoren (L' := [(2, vi 0), (0, rf X 23), (1, vi a1)]) (D_Remembered_prove 10 rfl) rfl (wr_lit rfl) (by decide) rfl ?_
  refine j_loc [1, 2, 0] rfl ?_
  exact s_Remembered_prove_L17 FU (ha1) (wr_lit rfl) h
abbrev M_Remembered_doubted : MI := (⟨"InquestHall$Remembered", "doubted", "(I)I"⟩, prog_10_method_11_code, 4, (some .int))
theorem cw_Remembered_doubted : Cond.code M_Remembered_doubted.1 M_Remembered_doubted.2.1 M_Remembered_doubted.2.2.1 M_Remembered_doubted.2.2.2 ∈ TS := mTS (List.mem_of_getElem? (i := 1231) (by decide +kernel)) (by decide +kernel)
def tb_Remembered_doubted : List (Nat × Instr × Nat) := [(0, .iconst 0, 1), (1, .istore_n 2, 1), (2, .iconst 0, 1), (3, .istore_n 3, 1), (4, .iload_n 3, 1), (5, .aload_n 0, 1), (6, .getfield 17, 3), (9, .iload_n 1, 1), (10, .iaload, 1), (11, .if_icmp .ge 32, 3), (14, .iload_n 2, 1), (15, .aload_n 0, 1), (16, .iload_n 1, 1), (17, .iload_n 3, 1), (18, .aload_n 0, 1), (19, .getfield 46, 3), (22, .invokevirtual 42, 3), (25, .ifCond .eq 7, 3), (28, .iconst 0, 1), (29, .goto 6, 3), (32, .iconst 1, 1), (33, .iload_n 3, 1), (34, .ishl, 1), (35, .ior, 1), (36, .istore_n 2, 1), (37, .iinc 3 1, 3), (40, .goto (-36), 3), (43, .iload_n 2, 1), (44, .ireturn, 1)]
theorem D_Remembered_doubted (i : Nat) {pc len : Nat} {ins : Instr} (hi : tb_Remembered_doubted[i]? = some (pc, ins, len)) : decode M_Remembered_doubted.2.1 pc = .ok (ins, len) := dec_of (by decide +kernel) i hi
def f_Remembered_doubted_L35 (G : GS) (k4 : Int → Int → Int → Option (Int)) (x1 : Int) (x3 : Int) (s0 : Int) (s1 : Int) : Option (Int) :=
  k4 x1 (bOr s1 s0) (wr (x3 + 1))
theorem s_Remembered_doubted_L35 {X : XT} {G : GS} {r : Int} {k4 : Int → Int → Int → Option (Int)} (hk4 : ∀ {x1 : Int} {x2 : Int} {x3 : Int} , wr x1 = x1 → wr x2 = x2 → wr x3 = x3 → k4 x1 x2 x3 = some r → J X true 8 0 0 M_Remembered_doubted (Ri r G) NC 0 0 4 [(0, rf X 23), (1, vi x1), (2, vi x2), (3, vi x3)] [] G) : ∀ {x1 : Int} {x3 : Int} {s0 : Int} {s1 : Int}, wr x1 = x1 → wr x3 = x3 → wr s0 = s0 → wr s1 = s1 → f_Remembered_doubted_L35 G k4 x1 x3 s0 s1 = some r → J X true 8 0 0 M_Remembered_doubted (Ri r G) NC 0 0 35 [(0, rf X 23), (1, vi x1), (3, vi x3)] [vi s0, vi s1] G := by
  intro x1 x3 s0 s1 hx1 hx3 hs0 hs1 h
  unfold f_Remembered_doubted_L35 at h
  refine j_ior (D_Remembered_doubted 23 rfl) ?_
  refine j_istoren (L' := [(2, vi (bOr s1 s0)), (0, rf X 23), (1, vi x1), (3, vi x3)]) (D_Remembered_doubted 24 rfl) rfl (wr_bOr _ _) (by decide) rfl ?_
  refine j_iinc (k := 3) (L' := [(3, vi (wr (x3 + 1))), (2, vi (bOr s1 s0)), (0, rf X 23), (1, vi x1)]) (D_Remembered_doubted 25 rfl) rfl rfl (by decide) rfl ?_
  refine j_goto (tgt := 4) (D_Remembered_doubted 26 rfl) rfl ?_
  refine j_loc [2, 3, 1, 0] rfl ?_
  exact hk4 (hx1) (wr_bOr _ _) (wr_wr _) h
def f_Remembered_doubted_L4 (G : GS) : Nat → Int → Int → Int → Option (Int)
  | 0, _, _, _ => none
  | n + 1, x1, x2, x3 =>
    gd (0 ≤ x1 ∧ x1 < 32) <|
    if gi G 25 x1.toNat ≤ x3 then
      some x2
    else
      (f_Remembered_agrees G x1 x3 (gi G 23 5)).bind fun q1 =>
      if q1 = 0 then
        f_Remembered_doubted_L35 G (f_Remembered_doubted_L4 G n) x1 x3 (bShl 1 x3) x2
      else
        f_Remembered_doubted_L35 G (f_Remembered_doubted_L4 G n) x1 x3 0 x2
theorem s_Remembered_doubted_L4 {X : XT} {G : GS} {r : Int} : ∀ (n : Nat) {x1 : Int} {x2 : Int} {x3 : Int}, wr x1 = x1 → wr x2 = x2 → wr x3 = x3 → f_Remembered_doubted_L4 G n x1 x2 x3 = some r → J X true 8 0 0 M_Remembered_doubted (Ri r G) NC 0 0 4 [(0, rf X 23), (1, vi x1), (2, vi x2), (3, vi x3)] [] G := by
  intro n
  induction n with
  | zero =>
    intro x1 x2 x3 hx1 hx2 hx3 h
    exact none_some h
  | succ n ih =>
    intro x1 x2 x3 hx1 hx2 hx3 h
    rw [f_Remembered_doubted_L4] at h
    refine j_iloadn (k := 3) (D_Remembered_doubted 4 rfl) rfl rfl ?_
    refine j_aloadn (k := 0) (D_Remembered_doubted 5 rfl) rfl rfl ?_
    refine j_getR rfl fa_Remembered_17 kd_23 lc_23 (by decide) rfl fx_23_1 (by decide) (D_Remembered_doubted 6 rfl) ?_
    refine j_iloadn (k := 1) (D_Remembered_doubted 7 rfl) rfl rfl ?_
    have g1 := gd_c h
    replace h := gd_s h
    refine j_iald (NI := 32) (D_Remembered_doubted 8 rfl) kd_25 lc_25 (hx1) rfl g1.1 g1.2 ?_
    refine j_ic_ge (tgt := 43) (D_Remembered_doubted 9 rfl) rfl (hx3) (wr_gi _ _ _) (fun c1 => ?_) (fun c1 => ?_)
    · replace h := ite_t h c1
      refine j_iloadn (k := 2) (D_Remembered_doubted 27 rfl) rfl rfl ?_
      exact j_iret (D_Remembered_doubted 28 rfl) rfl (hx2) rfl rfl (leafIo h (wr_n (hx2)))
    · replace h := ite_f h c1
      refine j_iloadn (k := 2) (D_Remembered_doubted 10 rfl) rfl rfl ?_
      refine j_aloadn (k := 0) (D_Remembered_doubted 11 rfl) rfl rfl ?_
      refine j_iloadn (k := 1) (D_Remembered_doubted 12 rfl) rfl rfl ?_
      refine j_iloadn (k := 3) (D_Remembered_doubted 13 rfl) rfl rfl ?_
      refine j_aloadn (k := 0) (D_Remembered_doubted 14 rfl) rfl rfl ?_
      refine j_getI rfl fa_Remembered_46 kd_23 lc_23 (by decide) rfl (D_Remembered_doubted 15 rfl) ?_
      obtain ⟨q1, e1, h⟩ := Option.bind_eq_some_iff.mp h
      refine j_cVz (c_Remembered_agrees (hx1) (hx3) (wr_gi _ _ _) e1) rfl lk_Remembered_42 mok_Remembered_agrees kd_23 lc_23 rfl (by decide) rfl rfl (Nat.le_of_ble_eq_true rfl) (D_Remembered_doubted 16 rfl) (fun w1 bw1 => ?_)
      refine j_if_eq (tgt := 32) (D_Remembered_doubted 17 rfl) rfl (w1) (fun c2 => ?_) (fun c2 => ?_)
      · replace h := ite_t h c2
        refine j_iconst (v := 1) (D_Remembered_doubted 20 rfl) rfl ?_
        refine j_iloadn (k := 3) (D_Remembered_doubted 21 rfl) rfl rfl ?_
        refine j_ishl (D_Remembered_doubted 22 rfl) ?_
        refine j_loc [0, 1, 3] rfl ?_
        exact s_Remembered_doubted_L35 ih (hx1) (hx3) (wr_bShl _ _) (hx2) h
      · replace h := ite_f h c2
        refine j_iconst (v := 0) (D_Remembered_doubted 18 rfl) rfl ?_
        refine j_goto (tgt := 35) (D_Remembered_doubted 19 rfl) rfl ?_
        refine j_loc [0, 1, 3] rfl ?_
        exact s_Remembered_doubted_L35 ih (hx1) (hx3) (wr_lit rfl) (hx2) h
def f_Remembered_doubted (G : GS) (a1 : Int) : Option (Int) :=
  f_Remembered_doubted_L4 G FU a1 0 0
theorem c_Remembered_doubted {X : XT} {G : GS} {a1 : Int} {r : Int} (ha1 : wr a1 = a1) (h : f_Remembered_doubted G a1 = some r) : Call X true 8 0 0 M_Remembered_doubted [rf X 23, vi a1] NC G (Ri r G) := by
  refine Call_of_J cw_Remembered_doubted (by decide +kernel) (Nat.le_of_ble_eq_true rfl) ?_
  unfold f_Remembered_doubted at h
  show J X true 8 0 0 M_Remembered_doubted (Ri r G) NC 0 0 0 [(0, rf X 23), (1, vi a1)] [] G
  refine j_iconst (v := 0) (D_Remembered_doubted 0 rfl) rfl ?_
  refine j_istoren (L' := [(2, vi 0), (0, rf X 23), (1, vi a1)]) (D_Remembered_doubted 1 rfl) rfl (wr_lit rfl) (by decide) rfl ?_
  refine j_iconst (v := 0) (D_Remembered_doubted 2 rfl) rfl ?_
  refine j_istoren (L' := [(3, vi 0), (2, vi 0), (0, rf X 23), (1, vi a1)]) (D_Remembered_doubted 3 rfl) rfl (wr_lit rfl) (by decide) rfl ?_
  refine j_loc [2, 3, 1, 0] rfl ?_
  exact s_Remembered_doubted_L4 FU (ha1) (wr_lit rfl) (wr_lit rfl) h
abbrev M_Hall_proof : MI := (⟨"InquestHall", "proof", "(II)I"⟩, prog_1_method_29_code, 3, (some .int))
theorem cw_Hall_proof : Cond.code M_Hall_proof.1 M_Hall_proof.2.1 M_Hall_proof.2.2.1 M_Hall_proof.2.2.2 ∈ TS := mTS (List.mem_of_getElem? (i := 1198) (by decide +kernel)) (by decide +kernel)
theorem lk_Hall_308 : Cond.methodLink "InquestHall" 308 M_Remembered_prove.1 ∈ TS := mTS (List.mem_of_getElem? (i := 1199) (by decide +kernel)) (by decide +kernel)
theorem mok_Remembered_prove : MOK M_Remembered_prove 1 := ⟨mTS (List.mem_of_getElem? (i := 1200) (by decide +kernel)) (by decide +kernel), mTS (List.mem_of_getElem? (i := 1201) (by decide +kernel)) (by decide +kernel), mTS (List.mem_of_getElem? (i := 131) (by decide +kernel)) (by decide +kernel), cw_Remembered_prove, ⟨by decide, by decide, by decide +kernel⟩, by decide +kernel, by decide⟩
theorem fa_Hall_311 : FA "InquestHall" 311 5 5 false .int := ⟨_, _, _, _, ok_Remembered, by decide, mTS (List.mem_of_getElem? (i := 381) (by decide +kernel)) (by decide +kernel), rfl, rfl⟩
theorem fa_Hall_314 : FA "InquestHall" 314 5 6 false .int := ⟨_, _, _, _, ok_Remembered, by decide, mTS (List.mem_of_getElem? (i := 383) (by decide +kernel)) (by decide +kernel), rfl, rfl⟩
theorem fa_Hall_317 : FA "InquestHall" 317 5 7 false .int := ⟨_, _, _, _, ok_Remembered, by decide, mTS (List.mem_of_getElem? (i := 385) (by decide +kernel)) (by decide +kernel), rfl, rfl⟩
theorem fa_Hall_320 : FA "InquestHall" 320 5 8 false .boolean := ⟨_, _, _, _, ok_Remembered, by decide, mTS (List.mem_of_getElem? (i := 387) (by decide +kernel)) (by decide +kernel), rfl, rfl⟩
theorem lk_Hall_324 : Cond.methodLink "InquestHall" 324 M_Remembered_doubted.1 ∈ TS := mTS (List.mem_of_getElem? (i := 1228) (by decide +kernel)) (by decide +kernel)
theorem mok_Remembered_doubted : MOK M_Remembered_doubted 1 := ⟨mTS (List.mem_of_getElem? (i := 1229) (by decide +kernel)) (by decide +kernel), mTS (List.mem_of_getElem? (i := 1230) (by decide +kernel)) (by decide +kernel), mTS (List.mem_of_getElem? (i := 131) (by decide +kernel)) (by decide +kernel), cw_Remembered_doubted, ⟨by decide, by decide, by decide +kernel⟩, by decide +kernel, by decide⟩
def tb_Hall_proof : List (Nat × Instr × Nat) := [(0, .iload_n 2, 1), (1, .ifCond .lt 31, 3), (4, .iload_n 2, 1), (5, .iconst 4, 1), (6, .if_icmp .gt 26, 3), (9, .aload_n 0, 1), (10, .getfield 12, 3), (13, .iload_n 1, 1), (14, .invokevirtual 122, 3), (17, .ifCond .eq 15, 3), (20, .aload_n 0, 1), (21, .getfield 42, 3), (24, .getfield 137, 3), (27, .iload_n 1, 1), (28, .iaload, 1), (29, .ifCond .ne 5, 3), (32, .iconst (-1), 1), (33, .ireturn, 1), (34, .aload_n 0, 1), (35, .getfield 42, 3), (38, .iload_n 1, 1), (39, .invokevirtual 308, 3), (42, .iload_n 2, 1), (43, .tableswitch 69 0 3 #[29, 37, 45, 53], 29), (72, .aload_n 0, 1), (73, .getfield 42, 3), (76, .getfield 311, 3), (79, .ireturn, 1), (80, .aload_n 0, 1), (81, .getfield 42, 3), (84, .getfield 314, 3), (87, .ireturn, 1), (88, .aload_n 0, 1), (89, .getfield 42, 3), (92, .getfield 317, 3), (95, .ireturn, 1), (96, .aload_n 0, 1), (97, .getfield 42, 3), (100, .getfield 320, 3), (103, .ifCond .eq 7, 3), (106, .iconst 1, 1), (107, .goto 4, 3), (110, .iconst 0, 1), (111, .ireturn, 1), (112, .aload_n 0, 1), (113, .getfield 42, 3), (116, .iload_n 1, 1), (117, .invokevirtual 324, 3), (120, .ireturn, 1)]
theorem D_Hall_proof (i : Nat) {pc len : Nat} {ins : Instr} (hi : tb_Hall_proof[i]? = some (pc, ins, len)) : decode M_Hall_proof.2.1 pc = .ok (ins, len) := dec_of (by decide +kernel) i hi
def f_Hall_proof (G : GS) (a1 : Int) (a2 : Int) : Option (Int × GS) :=
  if a2 < 0 then
    some ((-1), G)
  else
    if 4 < a2 then
      some ((-1), G)
    else
      (f_People_has G a1).bind fun q1 =>
      if q1 = 0 then
        some ((-1), G)
      else
        gd (0 ≤ a1 ∧ a1 < 32) <|
        if gi G 25 a1.toNat = 0 then
          some ((-1), G)
        else
          (f_Remembered_prove G a1).bind fun q2 =>
          if a2 = 0 then
            some (gi q2 23 5, q2)
          else
            if a2 = 1 then
              some (gi q2 23 6, q2)
            else
              if a2 = 2 then
                some (gi q2 23 7, q2)
              else
                if a2 = 3 then
                  if gi q2 23 8 = 0 then
                    some (0, q2)
                  else
                    some (1, q2)
                else
                  (f_Remembered_doubted q2 a1).bind fun q3 =>
                  some (q3, q2)
theorem c_Hall_proof {X : XT} {G : GS} {a1 : Int} {a2 : Int} {r : Int × GS} (ha1 : wr a1 = a1) (ha2 : wr a2 = a2) (h : f_Hall_proof G a1 a2 = some r) : Call X true 11 0 0 M_Hall_proof [rf X 0, vi a1, vi a2] NC G (Ri r.1 r.2) := by
  refine Call_of_J cw_Hall_proof (by decide +kernel) (Nat.le_of_ble_eq_true rfl) ?_
  unfold f_Hall_proof at h
  show J X true 11 0 0 M_Hall_proof (Ri r.1 r.2) NC 0 0 0 [(0, rf X 0), (1, vi a1), (2, vi a2)] [] G
  refine j_iloadn (k := 2) (D_Hall_proof 0 rfl) rfl rfl ?_
  refine j_if_lt (tgt := 32) (D_Hall_proof 1 rfl) rfl (ha2) (fun c1 => ?_) (fun c1 => ?_)
  · replace h := ite_t h c1
    refine j_iconst (v := (-1)) (D_Hall_proof 16 rfl) rfl ?_
    exact j_iret (D_Hall_proof 17 rfl) rfl (wr_lit rfl) rfl rfl (leafI h (wr_n (wr_lit rfl)))
  · replace h := ite_f h c1
    refine j_iloadn (k := 2) (D_Hall_proof 2 rfl) rfl rfl ?_
    refine j_iconst (v := 4) (D_Hall_proof 3 rfl) rfl ?_
    refine j_ic_gt (tgt := 32) (D_Hall_proof 4 rfl) rfl (ha2) (wr_lit rfl) (fun c2 => ?_) (fun c2 => ?_)
    · replace h := ite_t h c2
      refine j_iconst (v := (-1)) (D_Hall_proof 16 rfl) rfl ?_
      exact j_iret (D_Hall_proof 17 rfl) rfl (wr_lit rfl) rfl rfl (leafI h (wr_n (wr_lit rfl)))
    · replace h := ite_f h c2
      refine j_aloadn (k := 0) (D_Hall_proof 5 rfl) rfl rfl ?_
      refine j_getR rfl fa_Hall_12 kd_0 lc_0 (by decide) rfl fx_0_0 (by decide) (D_Hall_proof 6 rfl) ?_
      refine j_iloadn (k := 1) (D_Hall_proof 7 rfl) rfl rfl ?_
      obtain ⟨q1, e1, h⟩ := Option.bind_eq_some_iff.mp h
      refine j_cVz (c_People_has (ha1) e1) rfl lk_Hall_122 mok_People_has kd_1 lc_1 rfl (by decide) rfl rfl (Nat.le_of_ble_eq_true rfl) (D_Hall_proof 8 rfl) (fun w1 bw1 => ?_)
      refine j_if_eq (tgt := 32) (D_Hall_proof 9 rfl) rfl (w1) (fun c3 => ?_) (fun c3 => ?_)
      · replace h := ite_t h c3
        refine j_iconst (v := (-1)) (D_Hall_proof 16 rfl) rfl ?_
        exact j_iret (D_Hall_proof 17 rfl) rfl (wr_lit rfl) rfl rfl (leafI h (wr_n (wr_lit rfl)))
      · replace h := ite_f h c3
        refine j_aloadn (k := 0) (D_Hall_proof 10 rfl) rfl rfl ?_
        refine j_getR rfl fa_Hall_42 kd_0 lc_0 (by decide) rfl fx_0_4 (by decide) (D_Hall_proof 11 rfl) ?_
        refine j_getR rfl fa_Hall_137 kd_23 lc_23 (by decide) rfl fx_23_1 (by decide) (D_Hall_proof 12 rfl) ?_
        refine j_iloadn (k := 1) (D_Hall_proof 13 rfl) rfl rfl ?_
        have g1 := gd_c h
        replace h := gd_s h
        refine j_iald (NI := 32) (D_Hall_proof 14 rfl) kd_25 lc_25 (ha1) rfl g1.1 g1.2 ?_
        refine j_if_ne (tgt := 34) (D_Hall_proof 15 rfl) rfl (wr_gi _ _ _) (fun c4 => ?_) (fun c4 => ?_)
        · replace h := ite_f h c4
          refine j_aloadn (k := 0) (D_Hall_proof 18 rfl) rfl rfl ?_
          refine j_getR rfl fa_Hall_42 kd_0 lc_0 (by decide) rfl fx_0_4 (by decide) (D_Hall_proof 19 rfl) ?_
          refine j_iloadn (k := 1) (D_Hall_proof 20 rfl) rfl rfl ?_
          obtain ⟨q2, e2, h⟩ := Option.bind_eq_some_iff.mp h
          refine j_cVv (c_Remembered_prove (ha1) e2) rfl lk_Hall_308 mok_Remembered_prove kd_23 lc_23 rfl (by decide) rfl rfl (Nat.le_of_ble_eq_true rfl) (D_Hall_proof 21 rfl) ?_
          refine j_iloadn (k := 2) (D_Hall_proof 22 rfl) rfl rfl ?_
          by_cases c5 : a2 = 0
          · replace h := ite_t h c5
            refine j_tIn (tgt := 72) (D_Hall_proof 23 rfl) (ha2) c5 (by decide) (by decide) rfl rfl ?_
            refine j_aloadn (k := 0) (D_Hall_proof 24 rfl) rfl rfl ?_
            refine j_getR rfl fa_Hall_42 kd_0 lc_0 (by decide) rfl fx_0_4 (by decide) (D_Hall_proof 25 rfl) ?_
            refine j_getI rfl fa_Hall_311 kd_23 lc_23 (by decide) rfl (D_Hall_proof 26 rfl) ?_
            exact j_iret (D_Hall_proof 27 rfl) rfl (wr_gi _ _ _) rfl rfl (leafI h (wr_n (wr_gi _ _ _)))
          · replace h := ite_f h c5
            by_cases c6 : a2 = 1
            · replace h := ite_t h c6
              refine j_tIn (tgt := 80) (D_Hall_proof 23 rfl) (ha2) c6 (by decide) (by decide) rfl rfl ?_
              refine j_aloadn (k := 0) (D_Hall_proof 28 rfl) rfl rfl ?_
              refine j_getR rfl fa_Hall_42 kd_0 lc_0 (by decide) rfl fx_0_4 (by decide) (D_Hall_proof 29 rfl) ?_
              refine j_getI rfl fa_Hall_314 kd_23 lc_23 (by decide) rfl (D_Hall_proof 30 rfl) ?_
              exact j_iret (D_Hall_proof 31 rfl) rfl (wr_gi _ _ _) rfl rfl (leafI h (wr_n (wr_gi _ _ _)))
            · replace h := ite_f h c6
              by_cases c7 : a2 = 2
              · replace h := ite_t h c7
                refine j_tIn (tgt := 88) (D_Hall_proof 23 rfl) (ha2) c7 (by decide) (by decide) rfl rfl ?_
                refine j_aloadn (k := 0) (D_Hall_proof 32 rfl) rfl rfl ?_
                refine j_getR rfl fa_Hall_42 kd_0 lc_0 (by decide) rfl fx_0_4 (by decide) (D_Hall_proof 33 rfl) ?_
                refine j_getI rfl fa_Hall_317 kd_23 lc_23 (by decide) rfl (D_Hall_proof 34 rfl) ?_
                exact j_iret (D_Hall_proof 35 rfl) rfl (wr_gi _ _ _) rfl rfl (leafI h (wr_n (wr_gi _ _ _)))
              · replace h := ite_f h c7
                by_cases c8 : a2 = 3
                · replace h := ite_t h c8
                  refine j_tIn (tgt := 96) (D_Hall_proof 23 rfl) (ha2) c8 (by decide) (by decide) rfl rfl ?_
                  refine j_aloadn (k := 0) (D_Hall_proof 36 rfl) rfl rfl ?_
                  refine j_getR rfl fa_Hall_42 kd_0 lc_0 (by decide) rfl fx_0_4 (by decide) (D_Hall_proof 37 rfl) ?_
                  refine j_getI rfl fa_Hall_320 kd_23 lc_23 (by decide) rfl (D_Hall_proof 38 rfl) ?_
                  refine j_if_eq (tgt := 110) (D_Hall_proof 39 rfl) rfl (wr_gi _ _ _) (fun c9 => ?_) (fun c9 => ?_)
                  · replace h := ite_t h c9
                    refine j_iconst (v := 0) (D_Hall_proof 42 rfl) rfl ?_
                    exact j_iret (D_Hall_proof 43 rfl) rfl (wr_lit rfl) rfl rfl (leafI h (wr_n (wr_lit rfl)))
                  · replace h := ite_f h c9
                    refine j_iconst (v := 1) (D_Hall_proof 40 rfl) rfl ?_
                    refine j_goto (tgt := 111) (D_Hall_proof 41 rfl) rfl ?_
                    exact j_iret (D_Hall_proof 43 rfl) rfl (wr_lit rfl) rfl rfl (leafI h (wr_n (wr_lit rfl)))
                · replace h := ite_f h c8
                  refine j_tOut (tgt := 112) (D_Hall_proof 23 rfl) (ha2) (by omega) rfl ?_
                  refine j_aloadn (k := 0) (D_Hall_proof 44 rfl) rfl rfl ?_
                  refine j_getR rfl fa_Hall_42 kd_0 lc_0 (by decide) rfl fx_0_4 (by decide) (D_Hall_proof 45 rfl) ?_
                  refine j_iloadn (k := 1) (D_Hall_proof 46 rfl) rfl rfl ?_
                  obtain ⟨q3, e3, h⟩ := Option.bind_eq_some_iff.mp h
                  refine j_cVi (c_Remembered_doubted (ha1) e3) rfl lk_Hall_324 mok_Remembered_doubted kd_23 lc_23 rfl (by decide) rfl rfl (Nat.le_of_ble_eq_true rfl) (D_Hall_proof 47 rfl) (fun w2 => ?_)
                  exact j_iret (D_Hall_proof 48 rfl) rfl (w2) rfl rfl (leafI h (wr_n (w2)))
        · replace h := ite_t h c4
          refine j_iconst (v := (-1)) (D_Hall_proof 16 rfl) rfl ?_
          exact j_iret (D_Hall_proof 17 rfl) rfl (wr_lit rfl) rfl rfl (leafI h (wr_n (wr_lit rfl)))
abbrev M_Model_agrees : MI := (⟨"InquestHallModel", "agrees", "(II)Z"⟩, prog_14_method_91_code, 6, (some .boolean))
theorem cw_Model_agrees : Cond.code M_Model_agrees.1 M_Model_agrees.2.1 M_Model_agrees.2.2.1 M_Model_agrees.2.2.2 ∈ TS := mTS (List.mem_of_getElem? (i := 1968) (by decide +kernel)) (by decide +kernel)
def tb_Model_agrees : List (Nat × Instr × Nat) := [(0, .aload_n 0, 1), (1, .getfield 160, 3), (4, .aload_n 0, 1), (5, .getfield 169, 3), (8, .iload_n 1, 1), (9, .iaload, 1), (10, .iaload, 1), (11, .istore_n 3, 1), (12, .aload_n 0, 1), (13, .getfield 163, 3), (16, .iload_n 1, 1), (17, .iaload, 1), (18, .tableswitch 96 21 26 #[38, 49, 60, 96, 96, 78], 38), (56, .iload_n 2, 1), (57, .iload_n 3, 1), (58, .if_icmp .ge 7, 3), (61, .iconst 1, 1), (62, .goto 4, 3), (65, .iconst 0, 1), (66, .ireturn, 1), (67, .iload_n 2, 1), (68, .iload_n 3, 1), (69, .if_icmp .le 7, 3), (72, .iconst 1, 1), (73, .goto 4, 3), (76, .iconst 0, 1), (77, .ireturn, 1), (78, .iload_n 2, 1), (79, .iload_n 3, 1), (80, .aload_n 0, 1), (81, .getfield 166, 3), (84, .iload_n 1, 1), (85, .iaload, 1), (86, .isub, 1), (87, .if_icmp .ne 7, 3), (90, .iconst 1, 1), (91, .goto 4, 3), (94, .iconst 0, 1), (95, .ireturn, 1), (96, .iload_n 2, 1), (97, .iload_n 3, 1), (98, .aload_n 0, 1), (99, .getfield 166, 3), (102, .iload_n 1, 1), (103, .iaload, 1), (104, .iadd, 1), (105, .if_icmp .ne 7, 3), (108, .iconst 1, 1), (109, .goto 4, 3), (112, .iconst 0, 1), (113, .ireturn, 1), (114, .iload_n 2, 1), (115, .i2l, 1), (116, .iload_n 3, 1), (117, .i2l, 1), (118, .lsub, 1), (119, .ldc2_w 517, 3), (122, .aload_n 0, 1), (123, .getfield 166, 3), (126, .iload_n 1, 1), (127, .iaload, 1), (128, .i2l, 1), (129, .lmul, 1), (130, .ladd, 1), (131, .lstore 4, 2), (133, .lload 4, 2), (135, .aload_n 0, 1), (136, .getfield 172, 3), (139, .iload_n 1, 1), (140, .iaload, 1), (141, .i2l, 1), (142, .lcmp, 1), (143, .ifCond .gt 21, 3), (146, .lload 4, 2), (148, .aload_n 0, 1), (149, .getfield 172, 3), (152, .iload_n 1, 1), (153, .iaload, 1), (154, .ineg, 1), (155, .i2l, 1), (156, .lcmp, 1), (157, .ifCond .lt 7, 3), (160, .iconst 1, 1), (161, .goto 4, 3), (164, .iconst 0, 1), (165, .ireturn, 1)]
theorem D_Model_agrees (i : Nat) {pc len : Nat} {ins : Instr} (hi : tb_Model_agrees[i]? = some (pc, ins, len)) : decode M_Model_agrees.2.1 pc = .ok (ins, len) := dec_of (by decide +kernel) i hi
def f_Model_agrees (G : GS) (a1 : Int) (a2 : Int) : Option (Int) :=
  gd (0 ≤ a1 ∧ a1 < 768) <|
  gd (0 ≤ gi G 133 a1.toNat ∧ gi G 133 a1.toNat < 16) <|
  gd (0 ≤ a1 ∧ a1 < 768) <|
  if gi G 131 a1.toNat = 21 then
    if gi G 130 (gi G 133 a1.toNat).toNat ≤ a2 then
      some 0
    else
      some 1
  else
    if gi G 131 a1.toNat = 22 then
      if a2 ≤ gi G 130 (gi G 133 a1.toNat).toNat then
        some 0
      else
        some 1
    else
      if gi G 131 a1.toNat = 23 then
        gd (0 ≤ a1 ∧ a1 < 768) <|
        if a2 = wr ((gi G 130 (gi G 133 a1.toNat).toNat) - (gi G 132 a1.toNat)) then
          some 1
        else
          some 0
      else
        if gi G 131 a1.toNat = 24 then
          gd (0 ≤ a1 ∧ a1 < 768) <|
          gd (0 ≤ a1 ∧ a1 < 768) <|
          if 0 < lc (wl ((a2 - (gi G 130 (gi G 133 a1.toNat).toNat)) + (360 * (gi G 132 a1.toNat)))) (gi G 134 a1.toNat) then
            some 0
          else
            gd (0 ≤ a1 ∧ a1 < 768) <|
            if lc (wl ((a2 - (gi G 130 (gi G 133 a1.toNat).toNat)) + (360 * (gi G 132 a1.toNat)))) (wr (-(gi G 134 a1.toNat))) < 0 then
              some 0
            else
              some 1
        else
          if gi G 131 a1.toNat = 25 then
            gd (0 ≤ a1 ∧ a1 < 768) <|
            gd (0 ≤ a1 ∧ a1 < 768) <|
            if 0 < lc (wl ((a2 - (gi G 130 (gi G 133 a1.toNat).toNat)) + (360 * (gi G 132 a1.toNat)))) (gi G 134 a1.toNat) then
              some 0
            else
              gd (0 ≤ a1 ∧ a1 < 768) <|
              if lc (wl ((a2 - (gi G 130 (gi G 133 a1.toNat).toNat)) + (360 * (gi G 132 a1.toNat)))) (wr (-(gi G 134 a1.toNat))) < 0 then
                some 0
              else
                some 1
          else
            if gi G 131 a1.toNat = 26 then
              gd (0 ≤ a1 ∧ a1 < 768) <|
              if a2 = wr ((gi G 130 (gi G 133 a1.toNat).toNat) + (gi G 132 a1.toNat)) then
                some 1
              else
                some 0
            else
              gd (0 ≤ a1 ∧ a1 < 768) <|
              gd (0 ≤ a1 ∧ a1 < 768) <|
              if 0 < lc (wl ((a2 - (gi G 130 (gi G 133 a1.toNat).toNat)) + (360 * (gi G 132 a1.toNat)))) (gi G 134 a1.toNat) then
                some 0
              else
                gd (0 ≤ a1 ∧ a1 < 768) <|
                if lc (wl ((a2 - (gi G 130 (gi G 133 a1.toNat).toNat)) + (360 * (gi G 132 a1.toNat)))) (wr (-(gi G 134 a1.toNat))) < 0 then
                  some 0
                else
                  some 1
theorem c_Model_agrees {X : XT} {G : GS} {a1 : Int} {a2 : Int} {r : Int} (ha1 : wr a1 = a1) (ha2 : wr a2 = a2) (h : f_Model_agrees G a1 a2 = some r) : Call X true 6 0 0 M_Model_agrees [rf X 81, vi a1, vi a2] NC G (Rz r G) := by
  refine Call_of_J cw_Model_agrees (by decide +kernel) (Nat.le_of_ble_eq_true rfl) ?_
  unfold f_Model_agrees at h
  show J X true 6 0 0 M_Model_agrees (Rz r G) NC 0 0 0 [(0, rf X 81), (1, vi a1), (2, vi a2)] [] G
  refine j_aloadn (k := 0) (D_Model_agrees 0 rfl) rfl rfl ?_
  refine j_getR rfl fa_Model_160 kd_81 lc_81 (by decide) rfl fx_81_74 (by decide) (D_Model_agrees 1 rfl) ?_
  refine j_aloadn (k := 0) (D_Model_agrees 2 rfl) rfl rfl ?_
  refine j_getR rfl fa_Model_169 kd_81 lc_81 (by decide) rfl fx_81_77 (by decide) (D_Model_agrees 3 rfl) ?_
  refine j_iloadn (k := 1) (D_Model_agrees 4 rfl) rfl rfl ?_
  have g1 := gd_c h
  replace h := gd_s h
  refine j_iald (NI := 768) (D_Model_agrees 5 rfl) kd_133 lc_133 (ha1) rfl g1.1 g1.2 ?_
  have g2 := gd_c h
  replace h := gd_s h
  refine j_iald (NI := 16) (D_Model_agrees 6 rfl) kd_130 lc_130 (wr_gi _ _ _) rfl g2.1 g2.2 ?_
  refine j_istoren (L' := [(3, vi (gi G 130 (gi G 133 a1.toNat).toNat)), (0, rf X 81), (1, vi a1), (2, vi a2)]) (D_Model_agrees 7 rfl) rfl (wr_gi _ _ _) (by decide) rfl ?_
  refine j_aloadn (k := 1) (D_Model_agrees 8 rfl) rfl rfl ?_
  refine j_getR rfl fa_Model_163 kd_81 lc_81 (by decide) rfl fx_81_75 (by decide) (D_Model_agrees 9 rfl) ?_
  refine j_iloadn (k := 2) (D_Model_agrees 10 rfl) rfl rfl ?_
  have g3 := gd_c h
  replace h := gd_s h
  refine j_iald (NI := 768) (D_Model_agrees 11 rfl) kd_131 lc_131 (ha1) rfl g3.1 g3.2 ?_
  by_cases c1 : gi G 131 a1.toNat = 21
  · replace h := ite_t h c1
    refine j_tIn (tgt := 56) (D_Model_agrees 12 rfl) (wr_gi _ _ _) c1 (by decide) (by decide) rfl rfl ?_
    refine j_iloadn (k := 3) (D_Model_agrees 13 rfl) rfl rfl ?_
    refine j_iloadn (k := 0) (D_Model_agrees 14 rfl) rfl rfl ?_
    refine j_ic_ge (tgt := 65) (D_Model_agrees 15 rfl) rfl (ha2) (wr_gi _ _ _) (fun c2 => ?_) (fun c2 => ?_)
    · replace h := ite_t h c2
      refine j_iconst (v := 0) (D_Model_agrees 18 rfl) rfl ?_
      exact j_zret (D_Model_agrees 19 rfl) rfl (wr_lit rfl) (nz_01 (by decide)) rfl rfl (leafZo h (wr_n (wr_lit rfl)) (by decide))
    · replace h := ite_f h c2
      refine j_iconst (v := 1) (D_Model_agrees 16 rfl) rfl ?_
      refine j_goto (tgt := 66) (D_Model_agrees 17 rfl) rfl ?_
      exact j_zret (D_Model_agrees 19 rfl) rfl (wr_lit rfl) (nz_01 (by decide)) rfl rfl (leafZo h (wr_n (wr_lit rfl)) (by decide))
  · replace h := ite_f h c1
    by_cases c3 : gi G 131 a1.toNat = 22
    · replace h := ite_t h c3
      refine j_tIn (tgt := 67) (D_Model_agrees 12 rfl) (wr_gi _ _ _) c3 (by decide) (by decide) rfl rfl ?_
      refine j_iloadn (k := 3) (D_Model_agrees 20 rfl) rfl rfl ?_
      refine j_iloadn (k := 0) (D_Model_agrees 21 rfl) rfl rfl ?_
      refine j_ic_le (tgt := 76) (D_Model_agrees 22 rfl) rfl (ha2) (wr_gi _ _ _) (fun c4 => ?_) (fun c4 => ?_)
      · replace h := ite_t h c4
        refine j_iconst (v := 0) (D_Model_agrees 25 rfl) rfl ?_
        exact j_zret (D_Model_agrees 26 rfl) rfl (wr_lit rfl) (nz_01 (by decide)) rfl rfl (leafZo h (wr_n (wr_lit rfl)) (by decide))
      · replace h := ite_f h c4
        refine j_iconst (v := 1) (D_Model_agrees 23 rfl) rfl ?_
        refine j_goto (tgt := 77) (D_Model_agrees 24 rfl) rfl ?_
        exact j_zret (D_Model_agrees 26 rfl) rfl (wr_lit rfl) (nz_01 (by decide)) rfl rfl (leafZo h (wr_n (wr_lit rfl)) (by decide))
    · replace h := ite_f h c3
      by_cases c5 : gi G 131 a1.toNat = 23
      · replace h := ite_t h c5
        refine j_tIn (tgt := 78) (D_Model_agrees 12 rfl) (wr_gi _ _ _) c5 (by decide) (by decide) rfl rfl ?_
        refine j_iloadn (k := 3) (D_Model_agrees 27 rfl) rfl rfl ?_
        refine j_iloadn (k := 0) (D_Model_agrees 28 rfl) rfl rfl ?_
        refine j_aloadn (k := 1) (D_Model_agrees 29 rfl) rfl rfl ?_
        refine j_getR rfl fa_Model_166 kd_81 lc_81 (by decide) rfl fx_81_76 (by decide) (D_Model_agrees 30 rfl) ?_
        refine j_iloadn (k := 2) (D_Model_agrees 31 rfl) rfl rfl ?_
        have g4 := gd_c h
        replace h := gd_s h
        refine j_iald (NI := 768) (D_Model_agrees 32 rfl) kd_132 lc_132 (ha1) rfl g4.1 g4.2 ?_
        refine j_isub (D_Model_agrees 33 rfl) ?_
        refine j_ic_ne (tgt := 94) (D_Model_agrees 34 rfl) rfl (ha2) (rfl) (fun c6 => ?_) (fun c6 => ?_)
        · replace h := ite_f h c6
          refine j_iconst (v := 0) (D_Model_agrees 37 rfl) rfl ?_
          exact j_zret (D_Model_agrees 38 rfl) rfl (wr_lit rfl) (nz_01 (by decide)) rfl rfl (leafZo h (wr_n (wr_lit rfl)) (by decide))
        · replace h := ite_t h c6
          refine j_iconst (v := 1) (D_Model_agrees 35 rfl) rfl ?_
          refine j_goto (tgt := 95) (D_Model_agrees 36 rfl) rfl ?_
          exact j_zret (D_Model_agrees 38 rfl) rfl (wr_lit rfl) (nz_01 (by decide)) rfl rfl (leafZo h (wr_n (wr_lit rfl)) (by decide))
      · replace h := ite_f h c5
        by_cases c7 : gi G 131 a1.toNat = 24
        · replace h := ite_t h c7
          refine j_tIn (tgt := 114) (D_Model_agrees 12 rfl) (wr_gi _ _ _) c7 (by decide) (by decide) rfl rfl ?_
          refine j_iloadn (k := 3) (D_Model_agrees 51 rfl) rfl rfl ?_
          refine j_i2l (D_Model_agrees 52 rfl) (ha2) ?_
          refine j_iloadn (k := 0) (D_Model_agrees 53 rfl) rfl rfl ?_
          refine j_i2l (D_Model_agrees 54 rfl) (wr_gi _ _ _) ?_
          refine j_lsub (D_Model_agrees 55 rfl) ?_
          refine j_ldc2 (v := 360) rfl ct_Model_517 (by decide) (D_Model_agrees 56 rfl) ?_
          refine j_aloadn (k := 1) (D_Model_agrees 57 rfl) rfl rfl ?_
          refine j_getR rfl fa_Model_166 kd_81 lc_81 (by decide) rfl fx_81_76 (by decide) (D_Model_agrees 58 rfl) ?_
          refine j_iloadn (k := 2) (D_Model_agrees 59 rfl) rfl rfl ?_
          have g5 := gd_c h
          replace h := gd_s h
          refine j_iald (NI := 768) (D_Model_agrees 60 rfl) kd_132 lc_132 (ha1) rfl g5.1 g5.2 ?_
          refine j_i2l (D_Model_agrees 61 rfl) (wr_gi _ _ _) ?_
          refine j_lmul (D_Model_agrees 62 rfl) ?_
          refine j_ladd (D_Model_agrees 63 rfl) ?_
          refine j_lstore (L' := [(4, vl (wl ((a2 - (gi G 130 (gi G 133 a1.toNat).toNat)) + (360 * (gi G 132 a1.toNat))))), (3, vi (gi G 130 (gi G 133 a1.toNat).toNat)), (0, rf X 81), (1, vi a1), (2, vi a2)]) (D_Model_agrees 64 rfl) (rfl) (by decide) rfl ?_
          refine j_lload (k := 0) (D_Model_agrees 65 rfl) rfl ?_
          refine j_aloadn (k := 2) (D_Model_agrees 66 rfl) rfl rfl ?_
          refine j_getR rfl fa_Model_172 kd_81 lc_81 (by decide) rfl fx_81_78 (by decide) (D_Model_agrees 67 rfl) ?_
          refine j_iloadn (k := 3) (D_Model_agrees 68 rfl) rfl rfl ?_
          have g6 := gd_c h
          replace h := gd_s h
          refine j_iald (NI := 768) (D_Model_agrees 69 rfl) kd_134 lc_134 (ha1) rfl g6.1 g6.2 ?_
          refine j_i2l (D_Model_agrees 70 rfl) (wr_gi _ _ _) ?_
          refine j_lcmp (D_Model_agrees 71 rfl) ?_
          refine j_if_gt (tgt := 164) (D_Model_agrees 72 rfl) rfl (wr_lc _ _) (fun c8 => ?_) (fun c8 => ?_)
          · replace h := ite_t h c8
            refine j_iconst (v := 0) (D_Model_agrees 84 rfl) rfl ?_
            exact j_zret (D_Model_agrees 85 rfl) rfl (wr_lit rfl) (nz_01 (by decide)) rfl rfl (leafZo h (wr_n (wr_lit rfl)) (by decide))
          · replace h := ite_f h c8
            refine j_lload (k := 0) (D_Model_agrees 73 rfl) rfl ?_
            refine j_aloadn (k := 2) (D_Model_agrees 74 rfl) rfl rfl ?_
            refine j_getR rfl fa_Model_172 kd_81 lc_81 (by decide) rfl fx_81_78 (by decide) (D_Model_agrees 75 rfl) ?_
            refine j_iloadn (k := 3) (D_Model_agrees 76 rfl) rfl rfl ?_
            have g7 := gd_c h
            replace h := gd_s h
            refine j_iald (NI := 768) (D_Model_agrees 77 rfl) kd_134 lc_134 (ha1) rfl g7.1 g7.2 ?_
            refine j_ineg (D_Model_agrees 78 rfl) ?_
            refine j_i2l (D_Model_agrees 79 rfl) (rfl) ?_
            refine j_lcmp (D_Model_agrees 80 rfl) ?_
            refine j_if_lt (tgt := 164) (D_Model_agrees 81 rfl) rfl (wr_lc _ _) (fun c9 => ?_) (fun c9 => ?_)
            · replace h := ite_t h c9
              refine j_iconst (v := 0) (D_Model_agrees 84 rfl) rfl ?_
              exact j_zret (D_Model_agrees 85 rfl) rfl (wr_lit rfl) (nz_01 (by decide)) rfl rfl (leafZo h (wr_n (wr_lit rfl)) (by decide))
            · replace h := ite_f h c9
              refine j_iconst (v := 1) (D_Model_agrees 82 rfl) rfl ?_
              refine j_goto (tgt := 165) (D_Model_agrees 83 rfl) rfl ?_
              exact j_zret (D_Model_agrees 85 rfl) rfl (wr_lit rfl) (nz_01 (by decide)) rfl rfl (leafZo h (wr_n (wr_lit rfl)) (by decide))
        · replace h := ite_f h c7
          by_cases c10 : gi G 131 a1.toNat = 25
          · replace h := ite_t h c10
            refine j_tIn (tgt := 114) (D_Model_agrees 12 rfl) (wr_gi _ _ _) c10 (by decide) (by decide) rfl rfl ?_
            refine j_iloadn (k := 3) (D_Model_agrees 51 rfl) rfl rfl ?_
            refine j_i2l (D_Model_agrees 52 rfl) (ha2) ?_
            refine j_iloadn (k := 0) (D_Model_agrees 53 rfl) rfl rfl ?_
            refine j_i2l (D_Model_agrees 54 rfl) (wr_gi _ _ _) ?_
            refine j_lsub (D_Model_agrees 55 rfl) ?_
            refine j_ldc2 (v := 360) rfl ct_Model_517 (by decide) (D_Model_agrees 56 rfl) ?_
            refine j_aloadn (k := 1) (D_Model_agrees 57 rfl) rfl rfl ?_
            refine j_getR rfl fa_Model_166 kd_81 lc_81 (by decide) rfl fx_81_76 (by decide) (D_Model_agrees 58 rfl) ?_
            refine j_iloadn (k := 2) (D_Model_agrees 59 rfl) rfl rfl ?_
            have g8 := gd_c h
            replace h := gd_s h
            refine j_iald (NI := 768) (D_Model_agrees 60 rfl) kd_132 lc_132 (ha1) rfl g8.1 g8.2 ?_
            refine j_i2l (D_Model_agrees 61 rfl) (wr_gi _ _ _) ?_
            refine j_lmul (D_Model_agrees 62 rfl) ?_
            refine j_ladd (D_Model_agrees 63 rfl) ?_
            refine j_lstore (L' := [(4, vl (wl ((a2 - (gi G 130 (gi G 133 a1.toNat).toNat)) + (360 * (gi G 132 a1.toNat))))), (3, vi (gi G 130 (gi G 133 a1.toNat).toNat)), (0, rf X 81), (1, vi a1), (2, vi a2)]) (D_Model_agrees 64 rfl) (rfl) (by decide) rfl ?_
            refine j_lload (k := 0) (D_Model_agrees 65 rfl) rfl ?_
            refine j_aloadn (k := 2) (D_Model_agrees 66 rfl) rfl rfl ?_
            refine j_getR rfl fa_Model_172 kd_81 lc_81 (by decide) rfl fx_81_78 (by decide) (D_Model_agrees 67 rfl) ?_
            refine j_iloadn (k := 3) (D_Model_agrees 68 rfl) rfl rfl ?_
            have g9 := gd_c h
            replace h := gd_s h
            refine j_iald (NI := 768) (D_Model_agrees 69 rfl) kd_134 lc_134 (ha1) rfl g9.1 g9.2 ?_
            refine j_i2l (D_Model_agrees 70 rfl) (wr_gi _ _ _) ?_
            refine j_lcmp (D_Model_agrees 71 rfl) ?_
            refine j_if_gt (tgt := 164) (D_Model_agrees 72 rfl) rfl (wr_lc _ _) (fun c11 => ?_) (fun c11 => ?_)
            · replace h := ite_t h c11
              refine j_iconst (v := 0) (D_Model_agrees 84 rfl) rfl ?_
              exact j_zret (D_Model_agrees 85 rfl) rfl (wr_lit rfl) (nz_01 (by decide)) rfl rfl (leafZo h (wr_n (wr_lit rfl)) (by decide))
            · replace h := ite_f h c11
              refine j_lload (k := 0) (D_Model_agrees 73 rfl) rfl ?_
              refine j_aloadn (k := 2) (D_Model_agrees 74 rfl) rfl rfl ?_
              refine j_getR rfl fa_Model_172 kd_81 lc_81 (by decide) rfl fx_81_78 (by decide) (D_Model_agrees 75 rfl) ?_
              refine j_iloadn (k := 3) (D_Model_agrees 76 rfl) rfl rfl ?_
              have g10 := gd_c h
              replace h := gd_s h
              refine j_iald (NI := 768) (D_Model_agrees 77 rfl) kd_134 lc_134 (ha1) rfl g10.1 g10.2 ?_
              refine j_ineg (D_Model_agrees 78 rfl) ?_
              refine j_i2l (D_Model_agrees 79 rfl) (rfl) ?_
              refine j_lcmp (D_Model_agrees 80 rfl) ?_
              refine j_if_lt (tgt := 164) (D_Model_agrees 81 rfl) rfl (wr_lc _ _) (fun c12 => ?_) (fun c12 => ?_)
              · replace h := ite_t h c12
                refine j_iconst (v := 0) (D_Model_agrees 84 rfl) rfl ?_
                exact j_zret (D_Model_agrees 85 rfl) rfl (wr_lit rfl) (nz_01 (by decide)) rfl rfl (leafZo h (wr_n (wr_lit rfl)) (by decide))
              · replace h := ite_f h c12
                refine j_iconst (v := 1) (D_Model_agrees 82 rfl) rfl ?_
                refine j_goto (tgt := 165) (D_Model_agrees 83 rfl) rfl ?_
                exact j_zret (D_Model_agrees 85 rfl) rfl (wr_lit rfl) (nz_01 (by decide)) rfl rfl (leafZo h (wr_n (wr_lit rfl)) (by decide))
          · replace h := ite_f h c10
            by_cases c13 : gi G 131 a1.toNat = 26
            · replace h := ite_t h c13
              refine j_tIn (tgt := 96) (D_Model_agrees 12 rfl) (wr_gi _ _ _) c13 (by decide) (by decide) rfl rfl ?_
              refine j_iloadn (k := 3) (D_Model_agrees 39 rfl) rfl rfl ?_
              refine j_iloadn (k := 0) (D_Model_agrees 40 rfl) rfl rfl ?_
              refine j_aloadn (k := 1) (D_Model_agrees 41 rfl) rfl rfl ?_
              refine j_getR rfl fa_Model_166 kd_81 lc_81 (by decide) rfl fx_81_76 (by decide) (D_Model_agrees 42 rfl) ?_
              refine j_iloadn (k := 2) (D_Model_agrees 43 rfl) rfl rfl ?_
              have g11 := gd_c h
              replace h := gd_s h
              refine j_iald (NI := 768) (D_Model_agrees 44 rfl) kd_132 lc_132 (ha1) rfl g11.1 g11.2 ?_
              refine j_iadd (D_Model_agrees 45 rfl) ?_
              refine j_ic_ne (tgt := 112) (D_Model_agrees 46 rfl) rfl (ha2) (rfl) (fun c14 => ?_) (fun c14 => ?_)
              · replace h := ite_f h c14
                refine j_iconst (v := 0) (D_Model_agrees 49 rfl) rfl ?_
                exact j_zret (D_Model_agrees 50 rfl) rfl (wr_lit rfl) (nz_01 (by decide)) rfl rfl (leafZo h (wr_n (wr_lit rfl)) (by decide))
              · replace h := ite_t h c14
                refine j_iconst (v := 1) (D_Model_agrees 47 rfl) rfl ?_
                refine j_goto (tgt := 113) (D_Model_agrees 48 rfl) rfl ?_
                exact j_zret (D_Model_agrees 50 rfl) rfl (wr_lit rfl) (nz_01 (by decide)) rfl rfl (leafZo h (wr_n (wr_lit rfl)) (by decide))
            · replace h := ite_f h c13
              refine j_tOut (tgt := 114) (D_Model_agrees 12 rfl) (wr_gi _ _ _) (by omega) rfl ?_
              refine j_iloadn (k := 3) (D_Model_agrees 51 rfl) rfl rfl ?_
              refine j_i2l (D_Model_agrees 52 rfl) (ha2) ?_
              refine j_iloadn (k := 0) (D_Model_agrees 53 rfl) rfl rfl ?_
              refine j_i2l (D_Model_agrees 54 rfl) (wr_gi _ _ _) ?_
              refine j_lsub (D_Model_agrees 55 rfl) ?_
              refine j_ldc2 (v := 360) rfl ct_Model_517 (by decide) (D_Model_agrees 56 rfl) ?_
              refine j_aloadn (k := 1) (D_Model_agrees 57 rfl) rfl rfl ?_
              refine j_getR rfl fa_Model_166 kd_81 lc_81 (by decide) rfl fx_81_76 (by decide) (D_Model_agrees 58 rfl) ?_
              refine j_iloadn (k := 2) (D_Model_agrees 59 rfl) rfl rfl ?_
              have g12 := gd_c h
              replace h := gd_s h
              refine j_iald (NI := 768) (D_Model_agrees 60 rfl) kd_132 lc_132 (ha1) rfl g12.1 g12.2 ?_
              refine j_i2l (D_Model_agrees 61 rfl) (wr_gi _ _ _) ?_
              refine j_lmul (D_Model_agrees 62 rfl) ?_
              refine j_ladd (D_Model_agrees 63 rfl) ?_
              refine j_lstore (L' := [(4, vl (wl ((a2 - (gi G 130 (gi G 133 a1.toNat).toNat)) + (360 * (gi G 132 a1.toNat))))), (3, vi (gi G 130 (gi G 133 a1.toNat).toNat)), (0, rf X 81), (1, vi a1), (2, vi a2)]) (D_Model_agrees 64 rfl) (rfl) (by decide) rfl ?_
              refine j_lload (k := 0) (D_Model_agrees 65 rfl) rfl ?_
              refine j_aloadn (k := 2) (D_Model_agrees 66 rfl) rfl rfl ?_
              refine j_getR rfl fa_Model_172 kd_81 lc_81 (by decide) rfl fx_81_78 (by decide) (D_Model_agrees 67 rfl) ?_
              refine j_iloadn (k := 3) (D_Model_agrees 68 rfl) rfl rfl ?_
              have g13 := gd_c h
              replace h := gd_s h
              refine j_iald (NI := 768) (D_Model_agrees 69 rfl) kd_134 lc_134 (ha1) rfl g13.1 g13.2 ?_
              refine j_i2l (D_Model_agrees 70 rfl) (wr_gi _ _ _) ?_
              refine j_lcmp (D_Model_agrees 71 rfl) ?_
              refine j_if_gt (tgt := 164) (D_Model_agrees 72 rfl) rfl (wr_lc _ _) (fun c15 => ?_) (fun c15 => ?_)
              · replace h := ite_t h c15
                refine j_iconst (v := 0) (D_Model_agrees 84 rfl) rfl ?_
                exact j_zret (D_Model_agrees 85 rfl) rfl (wr_lit rfl) (nz_01 (by decide)) rfl rfl (leafZo h (wr_n (wr_lit rfl)) (by decide))
              · replace h := ite_f h c15
                refine j_lload (k := 0) (D_Model_agrees 73 rfl) rfl ?_
                refine j_aloadn (k := 2) (D_Model_agrees 74 rfl) rfl rfl ?_
                refine j_getR rfl fa_Model_172 kd_81 lc_81 (by decide) rfl fx_81_78 (by decide) (D_Model_agrees 75 rfl) ?_
                refine j_iloadn (k := 3) (D_Model_agrees 76 rfl) rfl rfl ?_
                have g14 := gd_c h
                replace h := gd_s h
                refine j_iald (NI := 768) (D_Model_agrees 77 rfl) kd_134 lc_134 (ha1) rfl g14.1 g14.2 ?_
                refine j_ineg (D_Model_agrees 78 rfl) ?_
                refine j_i2l (D_Model_agrees 79 rfl) (rfl) ?_
                refine j_lcmp (D_Model_agrees 80 rfl) ?_
                refine j_if_lt (tgt := 164) (D_Model_agrees 81 rfl) rfl (wr_lc _ _) (fun c16 => ?_) (fun c16 => ?_)
                · replace h := ite_t h c16
                  refine j_iconst (v := 0) (D_Model_agrees 84 rfl) rfl ?_
                  exact j_zret (D_Model_agrees 85 rfl) rfl (wr_lit rfl) (nz_01 (by decide)) rfl rfl (leafZo h (wr_n (wr_lit rfl)) (by decide))
                · replace h := ite_f h c16
                  refine j_iconst (v := 1) (D_Model_agrees 82 rfl) rfl ?_
                  refine j_goto (tgt := 165) (D_Model_agrees 83 rfl) rfl ?_
                  exact j_zret (D_Model_agrees 85 rfl) rfl (wr_lit rfl) (nz_01 (by decide)) rfl rfl (leafZo h (wr_n (wr_lit rfl)) (by decide))
