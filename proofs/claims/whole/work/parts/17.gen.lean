/-! printed by wip/whole/gen.py out of the listing of the bytecode -/
abbrev M_Model_reads : MI := (⟨"InquestHallModel", "reads", "(I)I"⟩, prog_14_method_49_code, 4, (some .int))
theorem cw_Model_reads : Cond.code M_Model_reads.1 M_Model_reads.2.1 M_Model_reads.2.2.1 M_Model_reads.2.2.2 ∈ TS := mTS (List.mem_of_getElem? (i := 1641) (by decide +kernel)) (by decide +kernel)
theorem lk_Model_403 : Cond.methodLink "InquestHallModel" 403 M_Model_begins.1 ∈ TS := mTS (List.mem_of_getElem? (i := 1642) (by decide +kernel)) (by decide +kernel)
theorem mok_Model_begins : MOK M_Model_begins 1 := ⟨mTS (List.mem_of_getElem? (i := 1644) (by decide +kernel)) (by decide +kernel), mTS (List.mem_of_getElem? (i := 65) (by decide +kernel)) (by decide +kernel), mTS (List.mem_of_getElem? (i := 139) (by decide +kernel)) (by decide +kernel), cw_Model_begins, ⟨by decide, by decide, by decide +kernel⟩, by decide +kernel, by decide⟩
theorem lk_Model_407 : Cond.methodLink "InquestHallModel" 407 M_Model_aLine.1 ∈ TS := mTS (List.mem_of_getElem? (i := 1710) (by decide +kernel)) (by decide +kernel)
theorem mok_Model_aLine : MOK M_Model_aLine 0 := ⟨mTS (List.mem_of_getElem? (i := 1712) (by decide +kernel)) (by decide +kernel), mTS (List.mem_of_getElem? (i := 71) (by decide +kernel)) (by decide +kernel), mTS (List.mem_of_getElem? (i := 139) (by decide +kernel)) (by decide +kernel), cw_Model_aLine, ⟨by decide, by decide, by decide +kernel⟩, by decide +kernel, by decide⟩
theorem lk_Model_410 : Cond.methodLink "InquestHallModel" 410 M_Model_ends.1 ∈ TS := mTS (List.mem_of_getElem? (i := 1771) (by decide +kernel)) (by decide +kernel)
theorem mok_Model_ends : MOK M_Model_ends 1 := ⟨mTS (List.mem_of_getElem? (i := 1773) (by decide +kernel)) (by decide +kernel), mTS (List.mem_of_getElem? (i := 86) (by decide +kernel)) (by decide +kernel), mTS (List.mem_of_getElem? (i := 139) (by decide +kernel)) (by decide +kernel), cw_Model_ends, ⟨by decide, by decide, by decide +kernel⟩, by decide +kernel, by decide⟩
theorem lk_Model_184 : Cond.methodLink "InquestHallModel" 184 M_Model_clears.1 ∈ TS := mTS (List.mem_of_getElem? (i := 1297) (by decide +kernel)) (by decide +kernel)
theorem mok_Model_clears : MOK M_Model_clears 1 := ⟨mTS (List.mem_of_getElem? (i := 1299) (by decide +kernel)) (by decide +kernel), mTS (List.mem_of_getElem? (i := 59) (by decide +kernel)) (by decide +kernel), mTS (List.mem_of_getElem? (i := 139) (by decide +kernel)) (by decide +kernel), cw_Model_clears, ⟨by decide, by decide, by decide +kernel⟩, by decide +kernel, by decide⟩
theorem lk_Model_414 : Cond.methodLink "InquestHallModel" 414 M_Model_tells.1 ∈ TS := mTS (List.mem_of_getElem? (i := 1775) (by decide +kernel)) (by decide +kernel)
theorem mok_Model_tells : MOK M_Model_tells 2 := ⟨mTS (List.mem_of_getElem? (i := 1777) (by decide +kernel)) (by decide +kernel), mTS (List.mem_of_getElem? (i := 87) (by decide +kernel)) (by decide +kernel), mTS (List.mem_of_getElem? (i := 139) (by decide +kernel)) (by decide +kernel), cw_Model_tells, ⟨by decide, by decide, by decide +kernel⟩, by decide +kernel, by decide⟩
theorem fa_Model_88 : FA "InquestHallModel" 88 12 30 true (.array .int) := ⟨_, _, _, _, ok_Model, by decide, mTS (List.mem_of_getElem? (i := 1331) (by decide +kernel)) (by decide +kernel), rfl, rfl⟩
theorem fx_81_30 {G : GS} (w : WF true NC G) : G.2.2 81 30 = 108 := w.2 rfl (81, 30, 108) (by decide)
theorem kd_108 : kd 108 = (0, 6480) := rfl
theorem lc_108 : 108 < NC := by decide
def tb_Model_reads : List (Nat × Instr × Nat) := [(0, .iload_n 1, 1), (1, .iconst 0, 1), (2, .aload_n 0, 1), (3, .getfield 181, 3), (6, .iconst 1, 1), (7, .isub, 1), (8, .invokestatic 188, 3), (11, .ifCond .ne 10, 3), (14, .aload_n 0, 1), (15, .iconst 0, 1), (16, .putfield 226, 3), (19, .iconst (-1), 1), (20, .ireturn, 1), (21, .aload_n 0, 1), (22, .iconst 1, 1), (23, .invokevirtual 403, 3), (26, .iconst 1, 1), (27, .istore_n 2, 1), (28, .iload_n 2, 1), (29, .ifCond .eq 18, 3), (32, .aload_n 0, 1), (33, .getfield 314, 3), (36, .ifCond .eq 11, 3), (39, .aload_n 0, 1), (40, .invokevirtual 407, 3), (43, .istore_n 2, 1), (44, .goto (-16), 3), (47, .aload_n 0, 1), (48, .iload_n 2, 1), (49, .invokevirtual 410, 3), (52, .ifCond .ne 5, 3), (55, .iconst (-1), 1), (56, .ireturn, 1), (57, .aload_n 0, 1), (58, .iload_n 1, 1), (59, .invokevirtual 184, 3), (62, .iconst 0, 1), (63, .istore_n 3, 1), (64, .iload_n 3, 1), (65, .aload_n 0, 1), (66, .getfield 381, 3), (69, .if_icmp .ge 15, 3), (72, .aload_n 0, 1), (73, .iload_n 1, 1), (74, .iload_n 3, 1), (75, .invokevirtual 414, 3), (78, .iinc 3 1, 3), (81, .goto (-17), 3), (84, .aload_n 0, 1), (85, .getfield 82, 3), (88, .bipush 31, 2), (90, .iload_n 1, 1), (91, .imul, 1), (92, .aload_n 0, 1), (93, .getfield 381, 3), (96, .iadd, 1), (97, .aload_n 0, 1), (98, .getfield 350, 3), (101, .iastore, 1), (102, .aload_n 0, 1), (103, .getfield 76, 3), (106, .iload_n 1, 1), (107, .aload_n 0, 1), (108, .getfield 381, 3), (111, .iastore, 1), (112, .iconst 0, 1), (113, .istore_n 3, 1), (114, .iload_n 3, 1), (115, .iconst 2, 1), (116, .aload_n 0, 1), (117, .getfield 350, 3), (120, .imul, 1), (121, .if_icmp .ge 27, 3), (124, .aload_n 0, 1), (125, .getfield 88, 3), (128, .sipush 1620, 3), (131, .iload_n 1, 1), (132, .imul, 1), (133, .iload_n 3, 1), (134, .iadd, 1), (135, .aload_n 0, 1), (136, .getfield 112, 3), (139, .iload_n 3, 1), (140, .iaload, 1), (141, .iastore, 1), (142, .iinc 3 1, 3), (145, .goto (-31), 3), (148, .aload_n 0, 1), (149, .getfield 381, 3), (152, .ireturn, 1)]
theorem D_Model_reads (i : Nat) {pc len : Nat} {ins : Instr} (hi : tb_Model_reads[i]? = some (pc, ins, len)) : decode M_Model_reads.2.1 pc = .ok (ins, len) := dec_of (by decide +kernel) i hi
def f_Model_reads_L114 : Nat → GS → Int → Int → Option (Int × GS)
  | 0, _, _, _ => none
  | n + 1, G, x1, x3 =>
    if wr (2 * (gi G 81 42)) ≤ x3 then
      some (gi G 81 41, G)
    else
      gd (0 ≤ x3 ∧ x3 < 1620) <|
      gd (0 ≤ wr ((1620 * x1) + x3) ∧ wr ((1620 * x1) + x3) < 6480) <|
      wG (si G 108 (wr ((1620 * x1) + x3)).toNat (gi G 116 x3.toNat)) fun G1 =>
      f_Model_reads_L114 n G1 x1 (wr (x3 + 1))
theorem s_Model_reads_L114 {X : XT} {r : Int × GS} : ∀ (n : Nat) {G : GS} {x1 : Int} {x3 : Int}, wr x1 = x1 → wr x3 = x3 → f_Model_reads_L114 n G x1 x3 = some r → J X true 96 0 0 M_Model_reads (Ri r.1 r.2) NC 0 0 114 [(0, rf X 81), (1, vi x1), (3, vi x3)] [] G := by
  intro n
  induction n with
  | zero =>
    intro G x1 x3 hx1 hx3 h
    exact none_some h
  | succ n ih =>
    intro G x1 x3 hx1 hx3 h
    rw [f_Model_reads_L114] at h
    refine j_iloadn (k := 2) (D_Model_reads 67 rfl) rfl rfl ?_
    refine j_iconst (v := 2) (D_Model_reads 68 rfl) rfl ?_
    refine j_aloadn (k := 0) (D_Model_reads 69 rfl) rfl rfl ?_
    refine j_getI rfl fa_Model_350 kd_81 lc_81 (by decide) rfl (D_Model_reads 70 rfl) ?_
    refine j_imul (D_Model_reads 71 rfl) ?_
    refine j_ic_ge (tgt := 148) (D_Model_reads 72 rfl) rfl (hx3) (rfl) (fun c1 => ?_) (fun c1 => ?_)
    · replace h := ite_t h c1
      refine j_aloadn (k := 0) (D_Model_reads 87 rfl) rfl rfl ?_
      refine j_getI rfl fa_Model_381 kd_81 lc_81 (by decide) rfl (D_Model_reads 88 rfl) ?_
      exact j_iret (D_Model_reads 89 rfl) rfl (wr_gi _ _ _) rfl rfl (leafI h (wr_n (wr_gi _ _ _)))
    · replace h := ite_f h c1
      refine j_aloadn (k := 0) (D_Model_reads 73 rfl) rfl rfl ?_
      refine j_getR rfl fa_Model_88 kd_81 lc_81 (by decide) rfl fx_81_30 (by decide) (D_Model_reads 74 rfl) ?_
      refine j_sipush (v := 1620) (D_Model_reads 75 rfl) rfl ?_
      refine j_iloadn (k := 1) (D_Model_reads 76 rfl) rfl rfl ?_
      refine j_imul (D_Model_reads 77 rfl) ?_
      refine j_iloadn (k := 2) (D_Model_reads 78 rfl) rfl rfl ?_
      refine j_iadd (D_Model_reads 79 rfl) ?_
      refine j_aloadn (k := 0) (D_Model_reads 80 rfl) rfl rfl ?_
      refine j_getR rfl fa_Model_112 kd_81 lc_81 (by decide) rfl fx_81_38 (by decide) (D_Model_reads 81 rfl) ?_
      refine j_iloadn (k := 2) (D_Model_reads 82 rfl) rfl rfl ?_
      have g1 := gd_c h
      replace h := gd_s h
      refine j_iald (NI := 1620) (D_Model_reads 83 rfl) kd_116 lc_116 (hx3) rfl g1.1 g1.2 ?_
      have g2 := gd_c h
      replace h := gd_s h
      refine j_iast (NI := 6480) (D_Model_reads 84 rfl) kd_108 lc_108 (rfl) rfl g2.1 g2.2 ?_
      refine j_gen (fun G1 e1 => ?_)
      replace h := wG_at h e1
      refine j_iinc (k := 2) (L' := [(3, vi (wr (x3 + 1))), (0, rf X 81), (1, vi x1)]) (D_Model_reads 85 rfl) rfl rfl (by decide) rfl ?_
      refine j_goto (tgt := 114) (D_Model_reads 86 rfl) rfl ?_
      refine j_loc [1, 2, 0] rfl ?_
      exact ih (hx1) (wr_wr _) h
def f_Model_reads_L64 : Nat → GS → Int → Int → Option (Int × GS)
  | 0, _, _, _ => none
  | n + 1, G, x1, x3 =>
    if gi G 81 41 ≤ x3 then
      gd (0 ≤ wr ((31 * x1) + (gi G 81 41)) ∧ wr ((31 * x1) + (gi G 81 41)) < 124) <|
      wG (si G 106 (wr ((31 * x1) + (gi G 81 41))).toNat (gi G 81 42)) fun G1 =>
      gd (0 ≤ x1 ∧ x1 < 4) <|
      wG (si G1 104 x1.toNat (gi G1 81 41)) fun G2 =>
      f_Model_reads_L114 FU G2 x1 0
    else
      (f_Model_tells G x1 x3).bind fun q1 =>
      f_Model_reads_L64 n q1 x1 (wr (x3 + 1))
theorem s_Model_reads_L64 {X : XT} {r : Int × GS} : ∀ (n : Nat) {G : GS} {x1 : Int} {x3 : Int}, wr x1 = x1 → wr x3 = x3 → f_Model_reads_L64 n G x1 x3 = some r → J X true 96 0 0 M_Model_reads (Ri r.1 r.2) NC 0 0 64 [(0, rf X 81), (1, vi x1), (3, vi x3)] [] G := by
  intro n
  induction n with
  | zero =>
    intro G x1 x3 hx1 hx3 h
    exact none_some h
  | succ n ih =>
    intro G x1 x3 hx1 hx3 h
    rw [f_Model_reads_L64] at h
    refine j_iloadn (k := 2) (D_Model_reads 38 rfl) rfl rfl ?_
    refine j_aloadn (k := 0) (D_Model_reads 39 rfl) rfl rfl ?_
    refine j_getI rfl fa_Model_381 kd_81 lc_81 (by decide) rfl (D_Model_reads 40 rfl) ?_
    refine j_ic_ge (tgt := 84) (D_Model_reads 41 rfl) rfl (hx3) (wr_gi _ _ _) (fun c1 => ?_) (fun c1 => ?_)
    · replace h := ite_t h c1
      refine j_aloadn (k := 0) (D_Model_reads 48 rfl) rfl rfl ?_
      refine j_getR rfl fa_Model_82 kd_81 lc_81 (by decide) rfl fx_81_28 (by decide) (D_Model_reads 49 rfl) ?_
      refine j_bipush (v := 31) (D_Model_reads 50 rfl) rfl ?_
      refine j_iloadn (k := 1) (D_Model_reads 51 rfl) rfl rfl ?_
      refine j_imul (D_Model_reads 52 rfl) ?_
      refine j_aloadn (k := 0) (D_Model_reads 53 rfl) rfl rfl ?_
      refine j_getI rfl fa_Model_381 kd_81 lc_81 (by decide) rfl (D_Model_reads 54 rfl) ?_
      refine j_iadd (D_Model_reads 55 rfl) ?_
      refine j_aloadn (k := 0) (D_Model_reads 56 rfl) rfl rfl ?_
      refine j_getI rfl fa_Model_350 kd_81 lc_81 (by decide) rfl (D_Model_reads 57 rfl) ?_
      have g1 := gd_c h
      replace h := gd_s h
      refine j_iast (NI := 124) (D_Model_reads 58 rfl) kd_106 lc_106 (rfl) rfl g1.1 g1.2 ?_
      refine j_gen (fun G1 e1 => ?_)
      replace h := wG_at h e1
      refine j_aloadn (k := 0) (D_Model_reads 59 rfl) rfl rfl ?_
      refine j_getR rfl fa_Model_76 kd_81 lc_81 (by decide) rfl fx_81_26 (by decide) (D_Model_reads 60 rfl) ?_
      refine j_iloadn (k := 1) (D_Model_reads 61 rfl) rfl rfl ?_
      refine j_aloadn (k := 0) (D_Model_reads 62 rfl) rfl rfl ?_
      refine j_getI rfl fa_Model_381 kd_81 lc_81 (by decide) rfl (D_Model_reads 63 rfl) ?_
      have g2 := gd_c h
      replace h := gd_s h
      refine j_iast (NI := 4) (D_Model_reads 64 rfl) kd_104 lc_104 (hx1) rfl g2.1 g2.2 ?_
      refine j_gen (fun G2 e2 => ?_)
      replace h := wG_at h e2
      refine j_iconst (v := 0) (D_Model_reads 65 rfl) rfl ?_
      refine j_istoren (L' := [(3, vi 0), (0, rf X 81), (1, vi x1)]) (D_Model_reads 66 rfl) rfl (wr_lit rfl) (by decide) rfl ?_
      refine j_loc [1, 2, 0] rfl ?_
      exact s_Model_reads_L114 FU (hx1) (wr_lit rfl) h
    · replace h := ite_f h c1
      refine j_aloadn (k := 0) (D_Model_reads 42 rfl) rfl rfl ?_
      refine j_iloadn (k := 1) (D_Model_reads 43 rfl) rfl rfl ?_
      refine j_iloadn (k := 2) (D_Model_reads 44 rfl) rfl rfl ?_
      obtain ⟨q1, e3, h⟩ := Option.bind_eq_some_iff.mp h
      refine j_cVv (c_Model_tells (hx1) (hx3) e3) rfl lk_Model_414 mok_Model_tells kd_81 lc_81 rfl (by decide) rfl rfl (Nat.le_of_ble_eq_true rfl) (D_Model_reads 45 rfl) ?_
      refine j_iinc (k := 2) (L' := [(3, vi (wr (x3 + 1))), (0, rf X 81), (1, vi x1)]) (D_Model_reads 46 rfl) rfl rfl (by decide) rfl ?_
      refine j_goto (tgt := 64) (D_Model_reads 47 rfl) rfl ?_
      refine j_loc [1, 2, 0] rfl ?_
      exact ih (hx1) (wr_wr _) h
def f_Model_reads_L47 (G : GS) (x1 : Int) (x2 : Int) : Option (Int × GS) :=
  (f_Model_ends G x2).bind fun q1 =>
  if q1.1 = 0 then
    some ((-1), q1.2)
  else
    (f_Model_clears q1.2 x1).bind fun q2 =>
    f_Model_reads_L64 FU q2 x1 0
theorem s_Model_reads_L47 {X : XT} {r : Int × GS} : ∀ {G : GS} {x1 : Int} {x2 : Int}, wr x1 = x1 → wr x2 = x2 → f_Model_reads_L47 G x1 x2 = some r → J X true 96 0 0 M_Model_reads (Ri r.1 r.2) NC 0 0 47 [(0, rf X 81), (1, vi x1), (2, vi x2)] [] G := by
  intro G x1 x2 hx1 hx2 h
  unfold f_Model_reads_L47 at h
  refine j_aloadn (k := 0) (D_Model_reads 27 rfl) rfl rfl ?_
  refine j_iloadn (k := 2) (D_Model_reads 28 rfl) rfl rfl ?_
  obtain ⟨q1, e1, h⟩ := Option.bind_eq_some_iff.mp h
  refine j_cVz (c_Model_ends (hx2) e1) rfl lk_Model_410 mok_Model_ends kd_81 lc_81 rfl (by decide) rfl rfl (Nat.le_of_ble_eq_true rfl) (D_Model_reads 29 rfl) (fun w1 bw1 => ?_)
  refine j_if_ne (tgt := 57) (D_Model_reads 30 rfl) rfl (w1) (fun c1 => ?_) (fun c1 => ?_)
  · replace h := ite_f h c1
    refine j_aloadn (k := 0) (D_Model_reads 33 rfl) rfl rfl ?_
    refine j_iloadn (k := 1) (D_Model_reads 34 rfl) rfl rfl ?_
    obtain ⟨q2, e2, h⟩ := Option.bind_eq_some_iff.mp h
    refine j_cVv (c_Model_clears (hx1) e2) rfl lk_Model_184 mok_Model_clears kd_81 lc_81 rfl (by decide) rfl rfl (Nat.le_of_ble_eq_true rfl) (D_Model_reads 35 rfl) ?_
    refine j_iconst (v := 0) (D_Model_reads 36 rfl) rfl ?_
    refine j_istoren (L' := [(3, vi 0), (0, rf X 81), (1, vi x1), (2, vi x2)]) (D_Model_reads 37 rfl) rfl (wr_lit rfl) (by decide) rfl ?_
    refine j_loc [1, 2, 0] rfl ?_
    exact s_Model_reads_L64 FU (hx1) (wr_lit rfl) h
  · replace h := ite_t h c1
    refine j_iconst (v := (-1)) (D_Model_reads 31 rfl) rfl ?_
    exact j_iret (D_Model_reads 32 rfl) rfl (wr_lit rfl) rfl rfl (leafI h (wr_n (wr_lit rfl)))
def f_Model_reads_L28 : Nat → GS → Int → Int → Option (Int × GS)
  | 0, _, _, _ => none
  | n + 1, G, x1, x2 =>
    if x2 = 0 then
      f_Model_reads_L47 G x1 x2
    else
      if gi G 81 45 = 0 then
        f_Model_reads_L47 G x1 x2
      else
        (f_Model_aLine G).bind fun q1 =>
        f_Model_reads_L28 n q1.2 x1 q1.1
theorem s_Model_reads_L28 {X : XT} {r : Int × GS} : ∀ (n : Nat) {G : GS} {x1 : Int} {x2 : Int}, wr x1 = x1 → wr x2 = x2 → f_Model_reads_L28 n G x1 x2 = some r → J X true 96 0 0 M_Model_reads (Ri r.1 r.2) NC 0 0 28 [(0, rf X 81), (1, vi x1), (2, vi x2)] [] G := by
  intro n
  induction n with
  | zero =>
    intro G x1 x2 hx1 hx2 h
    exact none_some h
  | succ n ih =>
    intro G x1 x2 hx1 hx2 h
    rw [f_Model_reads_L28] at h
    refine j_iloadn (k := 2) (D_Model_reads 18 rfl) rfl rfl ?_
    refine j_if_eq (tgt := 47) (D_Model_reads 19 rfl) rfl (hx2) (fun c1 => ?_) (fun c1 => ?_)
    · replace h := ite_t h c1
      refine j_loc [0, 1, 2] rfl ?_
      exact s_Model_reads_L47 (hx1) (hx2) h
    · replace h := ite_f h c1
      refine j_aloadn (k := 0) (D_Model_reads 20 rfl) rfl rfl ?_
      refine j_getI rfl fa_Model_314 kd_81 lc_81 (by decide) rfl (D_Model_reads 21 rfl) ?_
      refine j_if_eq (tgt := 47) (D_Model_reads 22 rfl) rfl (wr_gi _ _ _) (fun c2 => ?_) (fun c2 => ?_)
      · replace h := ite_t h c2
        refine j_loc [0, 1, 2] rfl ?_
        exact s_Model_reads_L47 (hx1) (hx2) h
      · replace h := ite_f h c2
        refine j_aloadn (k := 0) (D_Model_reads 23 rfl) rfl rfl ?_
        obtain ⟨q1, e1, h⟩ := Option.bind_eq_some_iff.mp h
        refine j_cVz (c_Model_aLine e1) rfl lk_Model_407 mok_Model_aLine kd_81 lc_81 rfl (by decide) rfl rfl (Nat.le_of_ble_eq_true rfl) (D_Model_reads 24 rfl) (fun w1 bw1 => ?_)
        refine j_istoren (L' := [(2, vi q1.1), (0, rf X 81), (1, vi x1)]) (D_Model_reads 25 rfl) rfl (w1) (by decide) rfl ?_
        refine j_goto (tgt := 28) (D_Model_reads 26 rfl) rfl ?_
        refine j_loc [1, 2, 0] rfl ?_
        exact ih (hx1) (w1) h
def f_Model_reads (G : GS) (a1 : Int) : Option (Int × GS) :=
  (f_Model_isIn G a1 0 (wr ((gi G 81 16) - 1))).bind fun q1 =>
  if q1 = 0 then
    wG (si G 81 43 0) fun G1 =>
    some ((-1), G1)
  else
    (f_Model_begins G 1).bind fun q2 =>
    f_Model_reads_L28 FU q2 a1 1
theorem c_Model_reads {X : XT} {G : GS} {a1 : Int} {r : Int × GS} (ha1 : wr a1 = a1) (h : f_Model_reads G a1 = some r) : Call X true 96 0 0 M_Model_reads [rf X 81, vi a1] NC G (Ri r.1 r.2) := by
  refine Call_of_J cw_Model_reads (by decide +kernel) (Nat.le_of_ble_eq_true rfl) ?_
  unfold f_Model_reads at h
  show J X true 96 0 0 M_Model_reads (Ri r.1 r.2) NC 0 0 0 [(0, rf X 81), (1, vi a1)] [] G
  refine j_iloadn (k := 1) (D_Model_reads 0 rfl) rfl rfl ?_
  refine j_iconst (v := 0) (D_Model_reads 1 rfl) rfl ?_
  refine j_aloadn (k := 0) (D_Model_reads 2 rfl) rfl rfl ?_
  refine j_getI rfl fa_Model_181 kd_81 lc_81 (by decide) rfl (D_Model_reads 3 rfl) ?_
  refine j_iconst (v := 1) (D_Model_reads 4 rfl) rfl ?_
  refine j_isub (D_Model_reads 5 rfl) ?_
  refine j_top0 (rfl) ?_
  obtain ⟨q1, e1, h⟩ := Option.bind_eq_some_iff.mp h
  refine j_cSz (c_Model_isIn (ha1) (wr_lit rfl) (wr_wr _) e1) rfl lk_Model_188 sok_Model_isIn (by decide) rfl rfl (Nat.le_of_ble_eq_true rfl) (D_Model_reads 6 rfl) (fun w1 bw1 => ?_)
  refine j_if_ne (tgt := 21) (D_Model_reads 7 rfl) rfl (w1) (fun c1 => ?_) (fun c1 => ?_)
  · replace h := ite_f h c1
    refine j_aloadn (k := 0) (D_Model_reads 13 rfl) rfl rfl ?_
    refine j_iconst (v := 1) (D_Model_reads 14 rfl) rfl ?_
    obtain ⟨q2, e2, h⟩ := Option.bind_eq_some_iff.mp h
    refine j_cVv (c_Model_begins (wr_lit rfl) e2) rfl lk_Model_403 mok_Model_begins kd_81 lc_81 rfl (by decide) rfl rfl (Nat.le_of_ble_eq_true rfl) (D_Model_reads 15 rfl) ?_
    refine j_iconst (v := 1) (D_Model_reads 16 rfl) rfl ?_
    refine j_istoren (L' := [(2, vi 1), (0, rf X 81), (1, vi a1)]) (D_Model_reads 17 rfl) rfl (wr_lit rfl) (by decide) rfl ?_
    refine j_loc [1, 2, 0] rfl ?_
    exact s_Model_reads_L28 FU (ha1) (wr_lit rfl) h
  · replace h := ite_t h c1
    refine j_aloadn (k := 0) (D_Model_reads 8 rfl) rfl rfl ?_
    refine j_iconst (v := 0) (D_Model_reads 9 rfl) rfl ?_
    refine j_putI rfl fa_Model_226 kd_81 lc_81 (by decide) rfl (D_Model_reads 10 rfl) ?_
    refine j_gen (fun G1 e3 => ?_)
    replace h := wG_at h e3
    refine j_iconst (v := (-1)) (D_Model_reads 11 rfl) rfl ?_
    exact j_iret (D_Model_reads 12 rfl) rfl (wr_lit rfl) rfl rfl (leafI h (wr_n (wr_lit rfl)))
abbrev M_Hall_fault : MI := (⟨"InquestHall", "fault", "(I)I"⟩, prog_1_method_15_code, 2, (some .int))
theorem cw_Hall_fault : Cond.code M_Hall_fault.1 M_Hall_fault.2.1 M_Hall_fault.2.2.1 M_Hall_fault.2.2.2 ∈ TS := mTS (List.mem_of_getElem? (i := 900) (by decide +kernel)) (by decide +kernel)
theorem fa_Hall_175 : FA "InquestHall" 175 3 9 false .int := ⟨_, _, _, _, ok_Text, by decide, mTS (List.mem_of_getElem? (i := 306) (by decide +kernel)) (by decide +kernel), rfl, rfl⟩
theorem fa_Hall_172 : FA "InquestHall" 172 3 8 false .int := ⟨_, _, _, _, ok_Text, by decide, mTS (List.mem_of_getElem? (i := 304) (by decide +kernel)) (by decide +kernel), rfl, rfl⟩
def tb_Hall_fault : List (Nat × Instr × Nat) := [(0, .iload_n 1, 1), (1, .ifCond .ne 11, 3), (4, .aload_n 0, 1), (5, .getfield 26, 3), (8, .getfield 172, 3), (11, .ireturn, 1), (12, .iload_n 1, 1), (13, .iconst 1, 1), (14, .if_icmp .ne 13, 3), (17, .aload_n 0, 1), (18, .getfield 26, 3), (21, .getfield 175, 3), (24, .goto 4, 3), (27, .iconst (-1), 1), (28, .ireturn, 1)]
theorem D_Hall_fault (i : Nat) {pc len : Nat} {ins : Instr} (hi : tb_Hall_fault[i]? = some (pc, ins, len)) : decode M_Hall_fault.2.1 pc = .ok (ins, len) := dec_of (by decide +kernel) i hi
def f_Hall_fault (G : GS) (a1 : Int) : Option (Int) :=
  if a1 = 0 then
    some (gi G 15 8)
  else
    if a1 = 1 then
      some (gi G 15 9)
    else
      some (-1)
theorem c_Hall_fault {X : XT} {G : GS} {a1 : Int} {r : Int} (ha1 : wr a1 = a1) (h : f_Hall_fault G a1 = some r) : Call X true 6 0 0 M_Hall_fault [rf X 0, vi a1] NC G (Ri r G) := by
  refine Call_of_J cw_Hall_fault (by decide +kernel) (Nat.le_of_ble_eq_true rfl) ?_
  unfold f_Hall_fault at h
  show J X true 6 0 0 M_Hall_fault (Ri r G) NC 0 0 0 [(0, rf X 0), (1, vi a1)] [] G
  refine j_iloadn (k := 1) (D_Hall_fault 0 rfl) rfl rfl ?_
  refine j_if_ne (tgt := 12) (D_Hall_fault 1 rfl) rfl (ha1) (fun c1 => ?_) (fun c1 => ?_)
  · replace h := ite_f h c1
    refine j_iloadn (k := 1) (D_Hall_fault 6 rfl) rfl rfl ?_
    refine j_iconst (v := 1) (D_Hall_fault 7 rfl) rfl ?_
    refine j_ic_ne (tgt := 27) (D_Hall_fault 8 rfl) rfl (ha1) (wr_lit rfl) (fun c2 => ?_) (fun c2 => ?_)
    · replace h := ite_f h c2
      refine j_iconst (v := (-1)) (D_Hall_fault 13 rfl) rfl ?_
      exact j_iret (D_Hall_fault 14 rfl) rfl (wr_lit rfl) rfl rfl (leafIo h (wr_n (wr_lit rfl)))
    · replace h := ite_t h c2
      refine j_aloadn (k := 0) (D_Hall_fault 9 rfl) rfl rfl ?_
      refine j_getR rfl fa_Hall_26 kd_0 lc_0 (by decide) rfl fx_0_2 (by decide) (D_Hall_fault 10 rfl) ?_
      refine j_getI rfl fa_Hall_175 kd_15 lc_15 (by decide) rfl (D_Hall_fault 11 rfl) ?_
      refine j_goto (tgt := 28) (D_Hall_fault 12 rfl) rfl ?_
      exact j_iret (D_Hall_fault 14 rfl) rfl (wr_gi _ _ _) rfl rfl (leafIo h (wr_n (wr_gi _ _ _)))
  · replace h := ite_t h c1
    refine j_aloadn (k := 0) (D_Hall_fault 2 rfl) rfl rfl ?_
    refine j_getR rfl fa_Hall_26 kd_0 lc_0 (by decide) rfl fx_0_2 (by decide) (D_Hall_fault 3 rfl) ?_
    refine j_getI rfl fa_Hall_172 kd_15 lc_15 (by decide) rfl (D_Hall_fault 4 rfl) ?_
    exact j_iret (D_Hall_fault 5 rfl) rfl (wr_gi _ _ _) rfl rfl (leafIo h (wr_n (wr_gi _ _ _)))
abbrev M_Model_fault : MI := (⟨"InquestHallModel", "fault", "(I)I"⟩, prog_14_method_51_code, 2, (some .int))
theorem cw_Model_fault : Cond.code M_Model_fault.1 M_Model_fault.2.1 M_Model_fault.2.2.1 M_Model_fault.2.2.2 ∈ TS := mTS (List.mem_of_getElem? (i := 1782) (by decide +kernel)) (by decide +kernel)
def tb_Model_fault : List (Nat × Instr × Nat) := [(0, .iload_n 1, 1), (1, .ifCond .ne 10, 3), (4, .aload_n 0, 1), (5, .getfield 400, 3), (8, .goto 16, 3), (11, .iload_n 1, 1), (12, .iconst 1, 1), (13, .if_icmp .ne 10, 3), (16, .aload_n 0, 1), (17, .getfield 121, 3), (20, .goto 4, 3), (23, .iconst (-1), 1), (24, .ireturn, 1)]
theorem D_Model_fault (i : Nat) {pc len : Nat} {ins : Instr} (hi : tb_Model_fault[i]? = some (pc, ins, len)) : decode M_Model_fault.2.1 pc = .ok (ins, len) := dec_of (by decide +kernel) i hi
def f_Model_fault (G : GS) (a1 : Int) : Option (Int) :=
  if a1 = 0 then
    some (gi G 81 50)
  else
    if a1 = 1 then
      some (gi G 81 52)
    else
      some (-1)
theorem c_Model_fault {X : XT} {G : GS} {a1 : Int} {r : Int} (ha1 : wr a1 = a1) (h : f_Model_fault G a1 = some r) : Call X true 6 0 0 M_Model_fault [rf X 81, vi a1] NC G (Ri r G) := by
  refine Call_of_J cw_Model_fault (by decide +kernel) (Nat.le_of_ble_eq_true rfl) ?_
  unfold f_Model_fault at h
  show J X true 6 0 0 M_Model_fault (Ri r G) NC 0 0 0 [(0, rf X 81), (1, vi a1)] [] G
  refine j_iloadn (k := 1) (D_Model_fault 0 rfl) rfl rfl ?_
  refine j_if_ne (tgt := 11) (D_Model_fault 1 rfl) rfl (ha1) (fun c1 => ?_) (fun c1 => ?_)
  · replace h := ite_f h c1
    refine j_iloadn (k := 1) (D_Model_fault 5 rfl) rfl rfl ?_
    refine j_iconst (v := 1) (D_Model_fault 6 rfl) rfl ?_
    refine j_ic_ne (tgt := 23) (D_Model_fault 7 rfl) rfl (ha1) (wr_lit rfl) (fun c2 => ?_) (fun c2 => ?_)
    · replace h := ite_f h c2
      refine j_iconst (v := (-1)) (D_Model_fault 11 rfl) rfl ?_
      exact j_iret (D_Model_fault 12 rfl) rfl (wr_lit rfl) rfl rfl (leafIo h (wr_n (wr_lit rfl)))
    · replace h := ite_t h c2
      refine j_aloadn (k := 0) (D_Model_fault 8 rfl) rfl rfl ?_
      refine j_getI rfl fa_Model_121 kd_81 lc_81 (by decide) rfl (D_Model_fault 9 rfl) ?_
      refine j_goto (tgt := 24) (D_Model_fault 10 rfl) rfl ?_
      exact j_iret (D_Model_fault 12 rfl) rfl (wr_gi _ _ _) rfl rfl (leafIo h (wr_n (wr_gi _ _ _)))
  · replace h := ite_t h c1
    refine j_aloadn (k := 0) (D_Model_fault 2 rfl) rfl rfl ?_
    refine j_getI rfl fa_Model_400 kd_81 lc_81 (by decide) rfl (D_Model_fault 3 rfl) ?_
    refine j_goto (tgt := 24) (D_Model_fault 4 rfl) rfl ?_
    exact j_iret (D_Model_fault 12 rfl) rfl (wr_gi _ _ _) rfl rfl (leafIo h (wr_n (wr_gi _ _ _)))
abbrev M_Hall_isDay : MI := (⟨"InquestHall", "isDay", "(I)Z"⟩, prog_1_method_35_code, 1, (some .boolean))
theorem cw_Hall_isDay : Cond.code M_Hall_isDay.1 M_Hall_isDay.2.1 M_Hall_isDay.2.2.1 M_Hall_isDay.2.2.2 ∈ TS := mTS (List.mem_of_getElem? (i := 907) (by decide +kernel)) (by decide +kernel)
def tb_Hall_isDay : List (Nat × Instr × Nat) := [(0, .iload_n 0, 1), (1, .ifCond .lt 14, 3), (4, .iload_n 0, 1), (5, .sipush 29999, 3), (8, .if_icmp .gt 7, 3), (11, .iconst 1, 1), (12, .goto 4, 3), (15, .iconst 0, 1), (16, .ireturn, 1)]
theorem D_Hall_isDay (i : Nat) {pc len : Nat} {ins : Instr} (hi : tb_Hall_isDay[i]? = some (pc, ins, len)) : decode M_Hall_isDay.2.1 pc = .ok (ins, len) := dec_of (by decide +kernel) i hi
def f_Hall_isDay (G : GS) (a0 : Int) : Option (Int) :=
  if a0 < 0 then
    some 0
  else
    if 29999 < a0 then
      some 0
    else
      some 1
theorem c_Hall_isDay {X : XT} {G : GS} {a0 : Int} {r : Int} (ha0 : wr a0 = a0) (h : f_Hall_isDay G a0 = some r) : Call X true 6 0 0 M_Hall_isDay [vi a0] NC G (Rz r G) := by
  refine Call_of_J cw_Hall_isDay (by decide +kernel) (Nat.le_of_ble_eq_true rfl) ?_
  unfold f_Hall_isDay at h
  show J X true 6 0 0 M_Hall_isDay (Rz r G) NC 0 0 0 [(0, vi a0)] [] G
  refine j_iloadn (k := 0) (D_Hall_isDay 0 rfl) rfl rfl ?_
  refine j_if_lt (tgt := 15) (D_Hall_isDay 1 rfl) rfl (ha0) (fun c1 => ?_) (fun c1 => ?_)
  · replace h := ite_t h c1
    refine j_iconst (v := 0) (D_Hall_isDay 7 rfl) rfl ?_
    exact j_zret (D_Hall_isDay 8 rfl) rfl (wr_lit rfl) (nz_01 (by decide)) rfl rfl (leafZo h (wr_n (wr_lit rfl)) (by decide))
  · replace h := ite_f h c1
    refine j_iloadn (k := 0) (D_Hall_isDay 2 rfl) rfl rfl ?_
    refine j_sipush (v := 29999) (D_Hall_isDay 3 rfl) rfl ?_
    refine j_ic_gt (tgt := 15) (D_Hall_isDay 4 rfl) rfl (ha0) (wr_lit rfl) (fun c2 => ?_) (fun c2 => ?_)
    · replace h := ite_t h c2
      refine j_iconst (v := 0) (D_Hall_isDay 7 rfl) rfl ?_
      exact j_zret (D_Hall_isDay 8 rfl) rfl (wr_lit rfl) (nz_01 (by decide)) rfl rfl (leafZo h (wr_n (wr_lit rfl)) (by decide))
    · replace h := ite_f h c2
      refine j_iconst (v := 1) (D_Hall_isDay 5 rfl) rfl ?_
      refine j_goto (tgt := 16) (D_Hall_isDay 6 rfl) rfl ?_
      exact j_zret (D_Hall_isDay 8 rfl) rfl (wr_lit rfl) (nz_01 (by decide)) rfl rfl (leafZo h (wr_n (wr_lit rfl)) (by decide))
abbrev M_Hall_reignOn : MI := (⟨"InquestHall", "reignOn", "(I)I"⟩, prog_1_method_37_code, 4, (some .int))
theorem cw_Hall_reignOn : Cond.code M_Hall_reignOn.1 M_Hall_reignOn.2.1 M_Hall_reignOn.2.2.1 M_Hall_reignOn.2.2.2 ∈ TS := mTS (List.mem_of_getElem? (i := 911) (by decide +kernel)) (by decide +kernel)
def tb_Hall_reignOn : List (Nat × Instr × Nat) := [(0, .iconst 0, 1), (1, .istore_n 2, 1), (2, .iconst 1, 1), (3, .istore_n 3, 1), (4, .iload_n 3, 1), (5, .aload_n 0, 1), (6, .getfield 96, 3), (9, .if_icmp .ge 21, 3), (12, .aload_n 0, 1), (13, .getfield 92, 3), (16, .iload_n 3, 1), (17, .iaload, 1), (18, .iload_n 1, 1), (19, .if_icmp .gt 5, 3), (22, .iload_n 3, 1), (23, .istore_n 2, 1), (24, .iinc 3 1, 3), (27, .goto (-23), 3), (30, .iload_n 2, 1), (31, .ireturn, 1)]
theorem D_Hall_reignOn (i : Nat) {pc len : Nat} {ins : Instr} (hi : tb_Hall_reignOn[i]? = some (pc, ins, len)) : decode M_Hall_reignOn.2.1 pc = .ok (ins, len) := dec_of (by decide +kernel) i hi
def f_Hall_reignOn_L24 (G : GS) (k4 : Int → Int → Int → Option (Int)) (x1 : Int) (x2 : Int) (x3 : Int) : Option (Int) :=
  k4 x1 x2 (wr (x3 + 1))
theorem s_Hall_reignOn_L24 {X : XT} {G : GS} {r : Int} {k4 : Int → Int → Int → Option (Int)} (hk4 : ∀ {x1 : Int} {x2 : Int} {x3 : Int} , wr x1 = x1 → wr x2 = x2 → wr x3 = x3 → k4 x1 x2 x3 = some r → J X true 6 0 0 M_Hall_reignOn (Ri r G) NC 0 0 4 [(0, rf X 0), (1, vi x1), (2, vi x2), (3, vi x3)] [] G) : ∀ {x1 : Int} {x2 : Int} {x3 : Int}, wr x1 = x1 → wr x2 = x2 → wr x3 = x3 → f_Hall_reignOn_L24 G k4 x1 x2 x3 = some r → J X true 6 0 0 M_Hall_reignOn (Ri r G) NC 0 0 24 [(0, rf X 0), (1, vi x1), (2, vi x2), (3, vi x3)] [] G := by
  intro x1 x2 x3 hx1 hx2 hx3 h
  unfold f_Hall_reignOn_L24 at h
  refine j_iinc (k := 3) (L' := [(3, vi (wr (x3 + 1))), (0, rf X 0), (1, vi x1), (2, vi x2)]) (D_Hall_reignOn 16 rfl) rfl rfl (by decide) rfl ?_
  refine j_goto (tgt := 4) (D_Hall_reignOn 17 rfl) rfl ?_
  refine j_loc [1, 2, 3, 0] rfl ?_
  exact hk4 (hx1) (hx2) (wr_wr _) h
def f_Hall_reignOn_L4 (G : GS) : Nat → Int → Int → Int → Option (Int)
  | 0, _, _, _ => none
  | n + 1, x1, x2, x3 =>
    if gi G 0 12 ≤ x3 then
      some x2
    else
      gd (0 ≤ x3 ∧ x3 < 4) <|
      if x1 < gi G 74 x3.toNat then
        f_Hall_reignOn_L24 G (f_Hall_reignOn_L4 G n) x1 x2 x3
      else
        f_Hall_reignOn_L24 G (f_Hall_reignOn_L4 G n) x1 x3 x3
theorem s_Hall_reignOn_L4 {X : XT} {G : GS} {r : Int} : ∀ (n : Nat) {x1 : Int} {x2 : Int} {x3 : Int}, wr x1 = x1 → wr x2 = x2 → wr x3 = x3 → f_Hall_reignOn_L4 G n x1 x2 x3 = some r → J X true 6 0 0 M_Hall_reignOn (Ri r G) NC 0 0 4 [(0, rf X 0), (1, vi x1), (2, vi x2), (3, vi x3)] [] G := by
  intro n
  induction n with
  | zero =>
    intro x1 x2 x3 hx1 hx2 hx3 h
    exact none_some h
  | succ n ih =>
    intro x1 x2 x3 hx1 hx2 hx3 h
    rw [f_Hall_reignOn_L4] at h
    refine j_iloadn (k := 3) (D_Hall_reignOn 4 rfl) rfl rfl ?_
    refine j_aloadn (k := 0) (D_Hall_reignOn 5 rfl) rfl rfl ?_
    refine j_getI rfl fa_Hall_96 kd_0 lc_0 (by decide) rfl (D_Hall_reignOn 6 rfl) ?_
    refine j_ic_ge (tgt := 30) (D_Hall_reignOn 7 rfl) rfl (hx3) (wr_gi _ _ _) (fun c1 => ?_) (fun c1 => ?_)
    · replace h := ite_t h c1
      refine j_iloadn (k := 2) (D_Hall_reignOn 18 rfl) rfl rfl ?_
      exact j_iret (D_Hall_reignOn 19 rfl) rfl (hx2) rfl rfl (leafIo h (wr_n (hx2)))
    · replace h := ite_f h c1
      refine j_aloadn (k := 0) (D_Hall_reignOn 8 rfl) rfl rfl ?_
      refine j_getR rfl fa_Hall_92 kd_0 lc_0 (by decide) rfl fx_0_11 (by decide) (D_Hall_reignOn 9 rfl) ?_
      refine j_iloadn (k := 3) (D_Hall_reignOn 10 rfl) rfl rfl ?_
      have g1 := gd_c h
      replace h := gd_s h
      refine j_iald (NI := 4) (D_Hall_reignOn 11 rfl) kd_74 lc_74 (hx3) rfl g1.1 g1.2 ?_
      refine j_iloadn (k := 1) (D_Hall_reignOn 12 rfl) rfl rfl ?_
      refine j_ic_gt (tgt := 24) (D_Hall_reignOn 13 rfl) rfl (wr_gi _ _ _) (hx1) (fun c2 => ?_) (fun c2 => ?_)
      · replace h := ite_t h c2
        refine j_loc [0, 1, 2, 3] rfl ?_
        exact s_Hall_reignOn_L24 ih (hx1) (hx2) (hx3) h
      · replace h := ite_f h c2
        refine j_iloadn (k := 3) (D_Hall_reignOn 14 rfl) rfl rfl ?_
        refine j_istoren (L' := [(2, vi x3), (0, rf X 0), (1, vi x1), (3, vi x3)]) (D_Hall_reignOn 15 rfl) rfl (hx3) (by decide) rfl ?_
        refine j_loc [1, 2, 0, 3] rfl ?_
        exact s_Hall_reignOn_L24 ih (hx1) (hx3) (hx3) h
def f_Hall_reignOn (G : GS) (a1 : Int) : Option (Int) :=
  f_Hall_reignOn_L4 G FU a1 0 1
theorem c_Hall_reignOn {X : XT} {G : GS} {a1 : Int} {r : Int} (ha1 : wr a1 = a1) (h : f_Hall_reignOn G a1 = some r) : Call X true 6 0 0 M_Hall_reignOn [rf X 0, vi a1] NC G (Ri r G) := by
  refine Call_of_J cw_Hall_reignOn (by decide +kernel) (Nat.le_of_ble_eq_true rfl) ?_
  unfold f_Hall_reignOn at h
  show J X true 6 0 0 M_Hall_reignOn (Ri r G) NC 0 0 0 [(0, rf X 0), (1, vi a1)] [] G
  refine j_iconst (v := 0) (D_Hall_reignOn 0 rfl) rfl ?_
  refine j_istoren (L' := [(2, vi 0), (0, rf X 0), (1, vi a1)]) (D_Hall_reignOn 1 rfl) rfl (wr_lit rfl) (by decide) rfl ?_
  refine j_iconst (v := 1) (D_Hall_reignOn 2 rfl) rfl ?_
  refine j_istoren (L' := [(3, vi 1), (2, vi 0), (0, rf X 0), (1, vi a1)]) (D_Hall_reignOn 3 rfl) rfl (wr_lit rfl) (by decide) rfl ?_
  refine j_loc [2, 3, 1, 0] rfl ?_
  exact s_Hall_reignOn_L4 FU (ha1) (wr_lit rfl) (wr_lit rfl) h
abbrev M_Hall_lawAt : MI := (⟨"InquestHall", "lawAt", "(I)LInquestHall$Law;"⟩, prog_1_method_38_code, 2, (some (.object "InquestHall$Law")))
theorem cw_Hall_lawAt : Cond.code M_Hall_lawAt.1 M_Hall_lawAt.2.1 M_Hall_lawAt.2.2.1 M_Hall_lawAt.2.2.2 ∈ TS := mTS (List.mem_of_getElem? (i := 915) (by decide +kernel)) (by decide +kernel)
theorem lk_Hall_181 : Cond.methodLink "InquestHall" 181 M_Hall_reignOn.1 ∈ TS := mTS (List.mem_of_getElem? (i := 908) (by decide +kernel)) (by decide +kernel)
theorem mok_Hall_reignOn : MOK M_Hall_reignOn 1 := ⟨mTS (List.mem_of_getElem? (i := 910) (by decide +kernel)) (by decide +kernel), mTS (List.mem_of_getElem? (i := 21) (by decide +kernel)) (by decide +kernel), mTS (List.mem_of_getElem? (i := 122) (by decide +kernel)) (by decide +kernel), cw_Hall_reignOn, ⟨by decide, by decide, by decide +kernel⟩, by decide +kernel, by decide⟩
def tb_Hall_lawAt : List (Nat × Instr × Nat) := [(0, .aload_n 0, 1), (1, .getfield 87, 3), (4, .aload_n 0, 1), (5, .iload_n 1, 1), (6, .invokevirtual 181, 3), (9, .aaload, 1), (10, .areturn, 1)]
theorem D_Hall_lawAt (i : Nat) {pc len : Nat} {ins : Instr} (hi : tb_Hall_lawAt[i]? = some (pc, ins, len)) : decode M_Hall_lawAt.2.1 pc = .ok (ins, len) := dec_of (by decide +kernel) i hi
def f_Hall_lawAt (G : GS) (a1 : Int) : Option (Nat) :=
  (f_Hall_reignOn G a1).bind fun q1 =>
  gd (0 ≤ q1 ∧ q1 < 4) <|
  gd (lawC (gp G 49 q1.toNat) = true) <|
  some (gp G 49 q1.toNat)
theorem c_Hall_lawAt {X : XT} {G : GS} {a1 : Int} {r : Nat} (ha1 : wr a1 = a1) (h : f_Hall_lawAt G a1 = some r) : Call X true 7 0 0 M_Hall_lawAt [rf X 0, vi a1] NC G (Rr X r G) := by
  refine Call_of_J cw_Hall_lawAt (by decide +kernel) (Nat.le_of_ble_eq_true rfl) ?_
  unfold f_Hall_lawAt at h
  show J X true 7 0 0 M_Hall_lawAt (Rr X r G) NC 0 0 0 [(0, rf X 0), (1, vi a1)] [] G
  refine j_aloadn (k := 0) (D_Hall_lawAt 0 rfl) rfl rfl ?_
  refine j_getR rfl fa_Hall_87 kd_0 lc_0 (by decide) rfl fx_0_10 (by decide) (D_Hall_lawAt 1 rfl) ?_
  refine j_aloadn (k := 0) (D_Hall_lawAt 2 rfl) rfl rfl ?_
  refine j_iloadn (k := 1) (D_Hall_lawAt 3 rfl) rfl rfl ?_
  obtain ⟨q1, e1, h⟩ := Option.bind_eq_some_iff.mp h
  refine j_cVi (c_Hall_reignOn (ha1) e1) rfl lk_Hall_181 mok_Hall_reignOn kd_0 lc_0 rfl (by decide) rfl rfl (Nat.le_of_ble_eq_true rfl) (D_Hall_lawAt 4 rfl) (fun w1 => ?_)
  have g1 := gd_c h
  replace h := gd_s h
  have g2 := gd_c h
  replace h := gd_s h
  refine j_aald (NI := 4) (D_Hall_lawAt 5 rfl) kd_49 lc_49 (w1) rfl g1.1 g1.2 (law_kd g2).2.2 ?_
  exact j_aret (D_Hall_lawAt 6 rfl) rfl rfl rfl (leafRo h g2)
abbrev M_Law_wardTold : MI := (⟨"InquestHall$Law", "wardTold", "(II)I"⟩, prog_5_method_5_code, 3, (some .int))
theorem cw_Law_wardTold : Cond.code M_Law_wardTold.1 M_Law_wardTold.2.1 M_Law_wardTold.2.2.1 M_Law_wardTold.2.2.2 ∈ TS := mTS (List.mem_of_getElem? (i := 923) (by decide +kernel)) (by decide +kernel)
def tb_Law_wardTold : List (Nat × Instr × Nat) := [(0, .iload_n 2, 1), (1, .ifCond .ne 10, 3), (4, .aload_n 0, 1), (5, .getfield 15, 3), (8, .iload_n 1, 1), (9, .iaload, 1), (10, .ireturn, 1), (11, .iload_n 2, 1), (12, .iconst 1, 1), (13, .if_icmp .ne 12, 3), (16, .aload_n 0, 1), (17, .getfield 18, 3), (20, .iload_n 1, 1), (21, .iaload, 1), (22, .goto 9, 3), (25, .aload_n 0, 1), (26, .getfield 21, 3), (29, .iload_n 1, 1), (30, .iaload, 1), (31, .ireturn, 1)]
theorem D_Law_wardTold (i : Nat) {pc len : Nat} {ins : Instr} (hi : tb_Law_wardTold[i]? = some (pc, ins, len)) : decode M_Law_wardTold.2.1 pc = .ok (ins, len) := dec_of (by decide +kernel) i hi
def f_Law_wardTold (G : GS) (c : Nat) (a1 : Int) (a2 : Int) : Option (Int) :=
  if a2 = 0 then
    gd (0 ≤ a1 ∧ a1 < 3) <|
    some (gi G (c + 2) a1.toNat)
  else
    if a2 = 1 then
      gd (0 ≤ a1 ∧ a1 < 3) <|
      some (gi G (c + 3) a1.toNat)
    else
      gd (0 ≤ a1 ∧ a1 < 3) <|
      some (gi G (c + 4) a1.toNat)
theorem c_Law_wardTold {X : XT} {G : GS} {c : Nat} {a1 : Int} {a2 : Int} {r : Int} (hc : lawC c = true) (ha1 : wr a1 = a1) (ha2 : wr a2 = a2) (h : f_Law_wardTold G c a1 a2 = some r) : Call X true 6 0 0 M_Law_wardTold [rf X c, vi a1, vi a2] NC G (Ri r G) := by
  refine Call_of_J cw_Law_wardTold (by decide +kernel) (Nat.le_of_ble_eq_true rfl) ?_
  unfold f_Law_wardTold at h
  show J X true 6 0 0 M_Law_wardTold (Ri r G) NC 0 0 0 [(0, rf X c), (1, vi a1), (2, vi a2)] [] G
  refine j_iloadn (k := 2) (D_Law_wardTold 0 rfl) rfl rfl ?_
  refine j_if_ne (tgt := 11) (D_Law_wardTold 1 rfl) rfl (ha2) (fun c1 => ?_) (fun c1 => ?_)
  · replace h := ite_f h c1
    refine j_iloadn (k := 2) (D_Law_wardTold 7 rfl) rfl rfl ?_
    refine j_iconst (v := 1) (D_Law_wardTold 8 rfl) rfl ?_
    refine j_ic_ne (tgt := 25) (D_Law_wardTold 9 rfl) rfl (ha2) (wr_lit rfl) (fun c2 => ?_) (fun c2 => ?_)
    · replace h := ite_f h c2
      refine j_aloadn (k := 0) (D_Law_wardTold 15 rfl) rfl rfl ?_
      refine j_getR rfl fa_Law_21 (law_kd hc).1 (law_kd hc).2.1 (by decide) rfl (fun w => law_fx4 w hc) (by omega) (D_Law_wardTold 16 rfl) ?_
      refine j_iloadn (k := 1) (D_Law_wardTold 17 rfl) rfl rfl ?_
      have g1 := gd_c h
      replace h := gd_s h
      refine j_iald (NI := 3) (D_Law_wardTold 18 rfl) (law_kd4 hc).1 (law_kd4 hc).2 (ha1) rfl g1.1 g1.2 ?_
      exact j_iret (D_Law_wardTold 19 rfl) rfl (wr_gi _ _ _) rfl rfl (leafIo h (wr_n (wr_gi _ _ _)))
    · replace h := ite_t h c2
      refine j_aloadn (k := 0) (D_Law_wardTold 10 rfl) rfl rfl ?_
      refine j_getR rfl fa_Law_18 (law_kd hc).1 (law_kd hc).2.1 (by decide) rfl (fun w => law_fx3 w hc) (by omega) (D_Law_wardTold 11 rfl) ?_
      refine j_iloadn (k := 1) (D_Law_wardTold 12 rfl) rfl rfl ?_
      have g2 := gd_c h
      replace h := gd_s h
      refine j_iald (NI := 3) (D_Law_wardTold 13 rfl) (law_kd3 hc).1 (law_kd3 hc).2 (ha1) rfl g2.1 g2.2 ?_
      refine j_goto (tgt := 31) (D_Law_wardTold 14 rfl) rfl ?_
      exact j_iret (D_Law_wardTold 19 rfl) rfl (wr_gi _ _ _) rfl rfl (leafIo h (wr_n (wr_gi _ _ _)))
  · replace h := ite_t h c1
    refine j_aloadn (k := 0) (D_Law_wardTold 2 rfl) rfl rfl ?_
    refine j_getR rfl fa_Law_15 (law_kd hc).1 (law_kd hc).2.1 (by decide) rfl (fun w => law_fx2 w hc) (by omega) (D_Law_wardTold 3 rfl) ?_
    refine j_iloadn (k := 1) (D_Law_wardTold 4 rfl) rfl rfl ?_
    have g3 := gd_c h
    replace h := gd_s h
    refine j_iald (NI := 3) (D_Law_wardTold 5 rfl) (law_kd2 hc).1 (law_kd2 hc).2 (ha1) rfl g3.1 g3.2 ?_
    exact j_iret (D_Law_wardTold 6 rfl) rfl (wr_gi _ _ _) rfl rfl (leafIo h (wr_n (wr_gi _ _ _)))
abbrev M_Law_told : MI := (⟨"InquestHall$Law", "told", "(I)I"⟩, prog_5_method_4_code, 2, (some .int))
theorem cw_Law_told : Cond.code M_Law_told.1 M_Law_told.2.1 M_Law_told.2.2.1 M_Law_told.2.2.2 ∈ TS := mTS (List.mem_of_getElem? (i := 919) (by decide +kernel)) (by decide +kernel)
theorem lk_Law_54 : Cond.methodLink "InquestHall$Law" 54 M_Law_wardTold.1 ∈ TS := mTS (List.mem_of_getElem? (i := 920) (by decide +kernel)) (by decide +kernel)
theorem mok_Law_wardTold : MOK M_Law_wardTold 2 := ⟨mTS (List.mem_of_getElem? (i := 922) (by decide +kernel)) (by decide +kernel), mTS (List.mem_of_getElem? (i := 23) (by decide +kernel)) (by decide +kernel), mTS (List.mem_of_getElem? (i := 138) (by decide +kernel)) (by decide +kernel), cw_Law_wardTold, ⟨by decide, by decide, by decide +kernel⟩, by decide +kernel, by decide⟩
def tb_Law_told : List (Nat × Instr × Nat) := [(0, .iload_n 1, 1), (1, .iconst 5, 1), (2, .if_icmp .lt 18, 3), (5, .iload_n 1, 1), (6, .bipush 8, 2), (8, .if_icmp .gt 12, 3), (11, .aload_n 0, 1), (12, .getfield 9, 3), (15, .iload_n 1, 1), (16, .iconst 5, 1), (17, .isub, 1), (18, .iaload, 1), (19, .ireturn, 1), (20, .iload_n 1, 1), (21, .bipush 10, 2), (23, .if_icmp .lt 26, 3), (26, .iload_n 1, 1), (27, .bipush 18, 2), (29, .if_icmp .gt 20, 3), (32, .aload_n 0, 1), (33, .iload_n 1, 1), (34, .bipush 10, 2), (36, .isub, 1), (37, .iconst 3, 1), (38, .idiv, 1), (39, .iload_n 1, 1), (40, .bipush 10, 2), (42, .isub, 1), (43, .iconst 3, 1), (44, .irem, 1), (45, .invokevirtual 54, 3), (48, .ireturn, 1), (49, .iload_n 1, 1), (50, .tableswitch 50 1 4 #[30, 35, 40, 45], 30), (80, .aload_n 0, 1), (81, .getfield 38, 3), (84, .ireturn, 1), (85, .aload_n 0, 1), (86, .getfield 42, 3), (89, .ireturn, 1), (90, .aload_n 0, 1), (91, .getfield 45, 3), (94, .ireturn, 1), (95, .aload_n 0, 1), (96, .getfield 48, 3), (99, .ireturn, 1), (100, .iconst (-1), 1), (101, .ireturn, 1)]
theorem D_Law_told (i : Nat) {pc len : Nat} {ins : Instr} (hi : tb_Law_told[i]? = some (pc, ins, len)) : decode M_Law_told.2.1 pc = .ok (ins, len) := dec_of (by decide +kernel) i hi
def f_Law_told_L49 (G : GS) (x0 : Nat) (x1 : Int) : Option (Int) :=
  if x1 = 1 then
    some (gi G x0 4)
  else
    if x1 = 2 then
      some (gi G x0 5)
    else
      if x1 = 3 then
        some (gi G x0 6)
      else
        if x1 = 4 then
          some (gi G x0 7)
        else
          some (-1)
theorem s_Law_told_L49 {X : XT} {G : GS} {r : Int} : ∀ {x0 : Nat} {x1 : Int}, lawC x0 = true → wr x1 = x1 → f_Law_told_L49 G x0 x1 = some r → J X true 7 0 0 M_Law_told (Ri r G) NC 0 0 49 [(0, rf X x0), (1, vi x1)] [] G := by
  intro x0 x1 hx0 hx1 h
  unfold f_Law_told_L49 at h
  refine j_iloadn (k := 1) (D_Law_told 32 rfl) rfl rfl ?_
  by_cases c1 : x1 = 1
  · replace h := ite_t h c1
    refine j_tIn (tgt := 80) (D_Law_told 33 rfl) (hx1) c1 (by decide) (by decide) rfl rfl ?_
    refine j_aloadn (k := 0) (D_Law_told 34 rfl) rfl rfl ?_
    refine j_getI rfl fa_Law_38 (law_kd hx0).1 (law_kd hx0).2.1 (by decide) rfl (D_Law_told 35 rfl) ?_
    exact j_iret (D_Law_told 36 rfl) rfl (wr_gi _ _ _) rfl rfl (leafIo h (wr_n (wr_gi _ _ _)))
  · replace h := ite_f h c1
    by_cases c2 : x1 = 2
    · replace h := ite_t h c2
      refine j_tIn (tgt := 85) (D_Law_told 33 rfl) (hx1) c2 (by decide) (by decide) rfl rfl ?_
      refine j_aloadn (k := 0) (D_Law_told 37 rfl) rfl rfl ?_
      refine j_getI rfl fa_Law_42 (law_kd hx0).1 (law_kd hx0).2.1 (by decide) rfl (D_Law_told 38 rfl) ?_
      exact j_iret (D_Law_told 39 rfl) rfl (wr_gi _ _ _) rfl rfl (leafIo h (wr_n (wr_gi _ _ _)))
    · replace h := ite_f h c2
      by_cases c3 : x1 = 3
      · replace h := ite_t h c3
        refine j_tIn (tgt := 90) (D_Law_told 33 rfl) (hx1) c3 (by decide) (by decide) rfl rfl ?_
        refine j_aloadn (k := 0) (D_Law_told 40 rfl) rfl rfl ?_
        refine j_getI rfl fa_Law_45 (law_kd hx0).1 (law_kd hx0).2.1 (by decide) rfl (D_Law_told 41 rfl) ?_
        exact j_iret (D_Law_told 42 rfl) rfl (wr_gi _ _ _) rfl rfl (leafIo h (wr_n (wr_gi _ _ _)))
      · replace h := ite_f h c3
        by_cases c4 : x1 = 4
        · replace h := ite_t h c4
          refine j_tIn (tgt := 95) (D_Law_told 33 rfl) (hx1) c4 (by decide) (by decide) rfl rfl ?_
          refine j_aloadn (k := 0) (D_Law_told 43 rfl) rfl rfl ?_
          refine j_getI rfl fa_Law_48 (law_kd hx0).1 (law_kd hx0).2.1 (by decide) rfl (D_Law_told 44 rfl) ?_
          exact j_iret (D_Law_told 45 rfl) rfl (wr_gi _ _ _) rfl rfl (leafIo h (wr_n (wr_gi _ _ _)))
        · replace h := ite_f h c4
          refine j_tOut (tgt := 100) (D_Law_told 33 rfl) (hx1) (by omega) rfl ?_
          refine j_iconst (v := (-1)) (D_Law_told 46 rfl) rfl ?_
          exact j_iret (D_Law_told 47 rfl) rfl (wr_lit rfl) rfl rfl (leafIo h (wr_n (wr_lit rfl)))
def f_Law_told_L20 (G : GS) (x0 : Nat) (x1 : Int) : Option (Int) :=
  if x1 < 10 then
    f_Law_told_L49 G x0 x1
  else
    if 18 < x1 then
      f_Law_told_L49 G x0 x1
    else
      (f_Law_wardTold G x0 (dv (x1 - 10) 3) (md (x1 - 10) 3)).bind fun q1 =>
      some q1
theorem s_Law_told_L20 {X : XT} {G : GS} {r : Int} : ∀ {x0 : Nat} {x1 : Int}, lawC x0 = true → wr x1 = x1 → f_Law_told_L20 G x0 x1 = some r → J X true 7 0 0 M_Law_told (Ri r G) NC 0 0 20 [(0, rf X x0), (1, vi x1)] [] G := by
  intro x0 x1 hx0 hx1 h
  unfold f_Law_told_L20 at h
  refine j_iloadn (k := 1) (D_Law_told 13 rfl) rfl rfl ?_
  refine j_bipush (v := 10) (D_Law_told 14 rfl) rfl ?_
  refine j_ic_lt (tgt := 49) (D_Law_told 15 rfl) rfl (hx1) (wr_lit rfl) (fun c1 => ?_) (fun c1 => ?_)
  · replace h := ite_t h c1
    refine j_loc [0, 1] rfl ?_
    exact s_Law_told_L49 hx0 (hx1) h
  · replace h := ite_f h c1
    refine j_iloadn (k := 1) (D_Law_told 16 rfl) rfl rfl ?_
    refine j_bipush (v := 18) (D_Law_told 17 rfl) rfl ?_
    refine j_ic_gt (tgt := 49) (D_Law_told 18 rfl) rfl (hx1) (wr_lit rfl) (fun c2 => ?_) (fun c2 => ?_)
    · replace h := ite_t h c2
      refine j_loc [0, 1] rfl ?_
      exact s_Law_told_L49 hx0 (hx1) h
    · replace h := ite_f h c2
      refine j_aloadn (k := 0) (D_Law_told 19 rfl) rfl rfl ?_
      refine j_iloadn (k := 1) (D_Law_told 20 rfl) rfl rfl ?_
      refine j_bipush (v := 10) (D_Law_told 21 rfl) rfl ?_
      refine j_isub (D_Law_told 22 rfl) ?_
      refine j_iconst (v := 3) (D_Law_told 23 rfl) rfl ?_
      refine j_idiv (D_Law_told 24 rfl) (wr_lit rfl) (by decide) ?_
      refine j_iloadn (k := 1) (D_Law_told 25 rfl) rfl rfl ?_
      refine j_bipush (v := 10) (D_Law_told 26 rfl) rfl ?_
      refine j_isub (D_Law_told 27 rfl) ?_
      refine j_iconst (v := 3) (D_Law_told 28 rfl) rfl ?_
      refine j_irem (D_Law_told 29 rfl) (wr_lit rfl) (by decide) ?_
      obtain ⟨q1, e1, h⟩ := Option.bind_eq_some_iff.mp h
      refine j_cVi (c_Law_wardTold hx0 (wr_dv _ _) (wr_md _ _) e1) rfl lk_Law_54 mok_Law_wardTold (law_kd hx0).1 (law_kd hx0).2.1 rfl (by decide) rfl rfl (Nat.le_of_ble_eq_true rfl) (D_Law_told 30 rfl) (fun w1 => ?_)
      exact j_iret (D_Law_told 31 rfl) rfl (w1) rfl rfl (leafIo h (wr_n (w1)))
def f_Law_told (G : GS) (c : Nat) (a1 : Int) : Option (Int) :=
  if a1 < 5 then
    f_Law_told_L20 G c a1
  else
    if 8 < a1 then
      f_Law_told_L20 G c a1
    else
      gd (0 ≤ wr (a1 - 5) ∧ wr (a1 - 5) < 4) <|
      some (gi G (c + 1) (wr (a1 - 5)).toNat)
theorem c_Law_told {X : XT} {G : GS} {c : Nat} {a1 : Int} {r : Int} (hc : lawC c = true) (ha1 : wr a1 = a1) (h : f_Law_told G c a1 = some r) : Call X true 7 0 0 M_Law_told [rf X c, vi a1] NC G (Ri r G) := by
  refine Call_of_J cw_Law_told (by decide +kernel) (Nat.le_of_ble_eq_true rfl) ?_
  unfold f_Law_told at h
  show J X true 7 0 0 M_Law_told (Ri r G) NC 0 0 0 [(0, rf X c), (1, vi a1)] [] G
  refine j_iloadn (k := 1) (D_Law_told 0 rfl) rfl rfl ?_
  refine j_iconst (v := 5) (D_Law_told 1 rfl) rfl ?_
  refine j_ic_lt (tgt := 20) (D_Law_told 2 rfl) rfl (ha1) (wr_lit rfl) (fun c1 => ?_) (fun c1 => ?_)
  · replace h := ite_t h c1
    refine j_loc [0, 1] rfl ?_
    exact s_Law_told_L20 hc (ha1) h
  · replace h := ite_f h c1
    refine j_iloadn (k := 1) (D_Law_told 3 rfl) rfl rfl ?_
    refine j_bipush (v := 8) (D_Law_told 4 rfl) rfl ?_
    refine j_ic_gt (tgt := 20) (D_Law_told 5 rfl) rfl (ha1) (wr_lit rfl) (fun c2 => ?_) (fun c2 => ?_)
    · replace h := ite_t h c2
      refine j_loc [0, 1] rfl ?_
      exact s_Law_told_L20 hc (ha1) h
    · replace h := ite_f h c2
      refine j_aloadn (k := 0) (D_Law_told 6 rfl) rfl rfl ?_
      refine j_getR rfl fa_Law_9 (law_kd hc).1 (law_kd hc).2.1 (by decide) rfl (fun w => law_fx1 w hc) (by omega) (D_Law_told 7 rfl) ?_
      refine j_iloadn (k := 1) (D_Law_told 8 rfl) rfl rfl ?_
      refine j_iconst (v := 5) (D_Law_told 9 rfl) rfl ?_
      refine j_isub (D_Law_told 10 rfl) ?_
      have g1 := gd_c h
      replace h := gd_s h
      refine j_iald (NI := 4) (D_Law_told 11 rfl) (law_kd1 hc).1 (law_kd1 hc).2 (rfl) rfl g1.1 g1.2 ?_
      exact j_iret (D_Law_told 12 rfl) rfl (wr_gi _ _ _) rfl rfl (leafIo h (wr_n (wr_gi _ _ _)))
abbrev M_Hall_lawOn : MI := (⟨"InquestHall", "lawOn", "(II)I"⟩, prog_1_method_16_code, 3, (some .int))
theorem cw_Hall_lawOn : Cond.code M_Hall_lawOn.1 M_Hall_lawOn.2.1 M_Hall_lawOn.2.2.1 M_Hall_lawOn.2.2.2 ∈ TS := mTS (List.mem_of_getElem? (i := 904) (by decide +kernel)) (by decide +kernel)
theorem lk_Hall_178 : Cond.methodLink "InquestHall" 178 M_Hall_isDay.1 ∈ TS := mTS (List.mem_of_getElem? (i := 905) (by decide +kernel)) (by decide +kernel)
theorem sok_Hall_isDay : SOK M_Hall_isDay 1 := ⟨mTS (List.mem_of_getElem? (i := 906) (by decide +kernel)) (by decide +kernel), mTS (List.mem_of_getElem? (i := 122) (by decide +kernel)) (by decide +kernel), cw_Hall_isDay, ⟨by decide, by decide, by decide +kernel⟩, by decide +kernel, by decide⟩
theorem lk_Hall_185 : Cond.methodLink "InquestHall" 185 M_Hall_lawAt.1 ∈ TS := mTS (List.mem_of_getElem? (i := 912) (by decide +kernel)) (by decide +kernel)
theorem mok_Hall_lawAt : MOK M_Hall_lawAt 1 := ⟨mTS (List.mem_of_getElem? (i := 914) (by decide +kernel)) (by decide +kernel), mTS (List.mem_of_getElem? (i := 22) (by decide +kernel)) (by decide +kernel), mTS (List.mem_of_getElem? (i := 122) (by decide +kernel)) (by decide +kernel), cw_Hall_lawAt, ⟨by decide, by decide, by decide +kernel⟩, by decide +kernel, by decide⟩
theorem lk_Hall_189 : Cond.methodLink "InquestHall" 189 M_Law_told.1 ∈ TS := mTS (List.mem_of_getElem? (i := 916) (by decide +kernel)) (by decide +kernel)
theorem mok_Law_told : MOK M_Law_told 1 := ⟨mTS (List.mem_of_getElem? (i := 917) (by decide +kernel)) (by decide +kernel), mTS (List.mem_of_getElem? (i := 918) (by decide +kernel)) (by decide +kernel), mTS (List.mem_of_getElem? (i := 138) (by decide +kernel)) (by decide +kernel), cw_Law_told, ⟨by decide, by decide, by decide +kernel⟩, by decide +kernel, by decide⟩
def tb_Hall_lawOn : List (Nat × Instr × Nat) := [(0, .iload_n 1, 1), (1, .invokestatic 178, 3), (4, .ifCond .ne 5, 3), (7, .iconst (-1), 1), (8, .ireturn, 1), (9, .iload_n 2, 1), (10, .ifCond .ne 11, 3), (13, .aload_n 0, 1), (14, .iload_n 1, 1), (15, .invokevirtual 181, 3), (18, .goto 12, 3), (21, .aload_n 0, 1), (22, .iload_n 1, 1), (23, .invokevirtual 185, 3), (26, .iload_n 2, 1), (27, .invokevirtual 189, 3), (30, .ireturn, 1)]
theorem D_Hall_lawOn (i : Nat) {pc len : Nat} {ins : Instr} (hi : tb_Hall_lawOn[i]? = some (pc, ins, len)) : decode M_Hall_lawOn.2.1 pc = .ok (ins, len) := dec_of (by decide +kernel) i hi
def f_Hall_lawOn (G : GS) (a1 : Int) (a2 : Int) : Option (Int) :=
  (f_Hall_isDay G a1).bind fun q1 =>
  if q1 = 0 then
    some (-1)
  else
    if a2 = 0 then
      (f_Hall_reignOn G a1).bind fun q4 =>
      some q4
    else
      (f_Hall_lawAt G a1).bind fun q2 =>
      (f_Law_told G q2 a2).bind fun q3 =>
      some q3
theorem c_Hall_lawOn {X : XT} {G : GS} {a1 : Int} {a2 : Int} {r : Int} (ha1 : wr a1 = a1) (ha2 : wr a2 = a2) (h : f_Hall_lawOn G a1 a2 = some r) : Call X true 8 0 0 M_Hall_lawOn [rf X 0, vi a1, vi a2] NC G (Ri r G) := by
  refine Call_of_J cw_Hall_lawOn (by decide +kernel) (Nat.le_of_ble_eq_true rfl) ?_
  unfold f_Hall_lawOn at h
  show J X true 8 0 0 M_Hall_lawOn (Ri r G) NC 0 0 0 [(0, rf X 0), (1, vi a1), (2, vi a2)] [] G
  refine j_iloadn (k := 1) (D_Hall_lawOn 0 rfl) rfl rfl ?_
  obtain ⟨q1, e1, h⟩ := Option.bind_eq_some_iff.mp h
  refine j_cSz (c_Hall_isDay (ha1) e1) rfl lk_Hall_178 sok_Hall_isDay (by decide) rfl rfl (Nat.le_of_ble_eq_true rfl) (D_Hall_lawOn 1 rfl) (fun w1 bw1 => ?_)
  refine j_if_ne (tgt := 9) (D_Hall_lawOn 2 rfl) rfl (w1) (fun c1 => ?_) (fun c1 => ?_)
  · replace h := ite_f h c1
    refine j_iloadn (k := 2) (D_Hall_lawOn 5 rfl) rfl rfl ?_
    refine j_if_ne (tgt := 21) (D_Hall_lawOn 6 rfl) rfl (ha2) (fun c2 => ?_) (fun c2 => ?_)
    · replace h := ite_f h c2
      refine j_aloadn (k := 0) (D_Hall_lawOn 11 rfl) rfl rfl ?_
      refine j_iloadn (k := 1) (D_Hall_lawOn 12 rfl) rfl rfl ?_
      obtain ⟨q2, e2, h⟩ := Option.bind_eq_some_iff.mp h
      refine j_cVr (c_Hall_lawAt (ha1) e2) rfl lk_Hall_185 mok_Hall_lawAt kd_0 lc_0 rfl (by decide) rfl rfl (Nat.le_of_ble_eq_true rfl) (D_Hall_lawOn 13 rfl) (fun w2 => ?_)
      refine j_iloadn (k := 2) (D_Hall_lawOn 14 rfl) rfl rfl ?_
      obtain ⟨q3, e3, h⟩ := Option.bind_eq_some_iff.mp h
      refine j_cVi (c_Law_told w2 (ha2) e3) rfl lk_Hall_189 mok_Law_told (law_kd w2).1 (law_kd w2).2.1 rfl (by decide) rfl rfl (Nat.le_of_ble_eq_true rfl) (D_Hall_lawOn 15 rfl) (fun w3 => ?_)
      exact j_iret (D_Hall_lawOn 16 rfl) rfl (w3) rfl rfl (leafIo h (wr_n (w3)))
    · replace h := ite_t h c2
      refine j_aloadn (k := 0) (D_Hall_lawOn 7 rfl) rfl rfl ?_
      refine j_iloadn (k := 1) (D_Hall_lawOn 8 rfl) rfl rfl ?_
      obtain ⟨q4, e4, h⟩ := Option.bind_eq_some_iff.mp h
      refine j_cVi (c_Hall_reignOn (ha1) e4) rfl lk_Hall_181 mok_Hall_reignOn kd_0 lc_0 rfl (by decide) rfl rfl (Nat.le_of_ble_eq_true rfl) (D_Hall_lawOn 9 rfl) (fun w4 => ?_)
      refine j_goto (tgt := 30) (D_Hall_lawOn 10 rfl) rfl ?_
      exact j_iret (D_Hall_lawOn 16 rfl) rfl (w4) rfl rfl (leafIo h (wr_n (w4)))
  · replace h := ite_t h c1
    refine j_iconst (v := (-1)) (D_Hall_lawOn 3 rfl) rfl ?_
    exact j_iret (D_Hall_lawOn 4 rfl) rfl (wr_lit rfl) rfl rfl (leafIo h (wr_n (wr_lit rfl)))
abbrev M_Model_reignOn : MI := (⟨"InquestHallModel", "reignOn", "(I)I"⟩, prog_14_method_21_code, 3, (some .int))
theorem cw_Model_reignOn : Cond.code M_Model_reignOn.1 M_Model_reignOn.2.1 M_Model_reignOn.2.2.1 M_Model_reignOn.2.2.2 ∈ TS := mTS (List.mem_of_getElem? (i := 1790) (by decide +kernel)) (by decide +kernel)
def tb_Model_reignOn : List (Nat × Instr × Nat) := [(0, .aload_n 0, 1), (1, .getfield 181, 3), (4, .iconst 1, 1), (5, .isub, 1), (6, .istore_n 2, 1), (7, .aload_n 0, 1), (8, .getfield 49, 3), (11, .iload_n 2, 1), (12, .iaload, 1), (13, .iload_n 1, 1), (14, .if_icmp .le 9, 3), (17, .iinc 2 (-1), 3), (20, .goto (-13), 3), (23, .iload_n 2, 1), (24, .ireturn, 1)]
theorem D_Model_reignOn (i : Nat) {pc len : Nat} {ins : Instr} (hi : tb_Model_reignOn[i]? = some (pc, ins, len)) : decode M_Model_reignOn.2.1 pc = .ok (ins, len) := dec_of (by decide +kernel) i hi
def f_Model_reignOn_L7 (G : GS) : Nat → Int → Int → Option (Int)
  | 0, _, _ => none
  | n + 1, x1, x2 =>
    gd (0 ≤ x2 ∧ x2 < 4) <|
    if gi G 95 x2.toNat ≤ x1 then
      some x2
    else
      f_Model_reignOn_L7 G n x1 (wr (x2 + (-1)))
theorem s_Model_reignOn_L7 {X : XT} {G : GS} {r : Int} : ∀ (n : Nat) {x1 : Int} {x2 : Int}, wr x1 = x1 → wr x2 = x2 → f_Model_reignOn_L7 G n x1 x2 = some r → J X true 6 0 0 M_Model_reignOn (Ri r G) NC 0 0 7 [(0, rf X 81), (1, vi x1), (2, vi x2)] [] G := by
  intro n
  induction n with
  | zero =>
    intro x1 x2 hx1 hx2 h
    exact none_some h
  | succ n ih =>
    intro x1 x2 hx1 hx2 h
    rw [f_Model_reignOn_L7] at h
    refine j_aloadn (k := 0) (D_Model_reignOn 5 rfl) rfl rfl ?_
    refine j_getR rfl fa_Model_49 kd_81 lc_81 (by decide) rfl fx_81_17 (by decide) (D_Model_reignOn 6 rfl) ?_
    refine j_iloadn (k := 2) (D_Model_reignOn 7 rfl) rfl rfl ?_
    have g1 := gd_c h
    replace h := gd_s h
    refine j_iald (NI := 4) (D_Model_reignOn 8 rfl) kd_95 lc_95 (hx2) rfl g1.1 g1.2 ?_
    refine j_iloadn (k := 1) (D_Model_reignOn 9 rfl) rfl rfl ?_
    refine j_ic_le (tgt := 23) (D_Model_reignOn 10 rfl) rfl (wr_gi _ _ _) (hx1) (fun c1 => ?_) (fun c1 => ?_)
    · replace h := ite_t h c1
      refine j_iloadn (k := 2) (D_Model_reignOn 13 rfl) rfl rfl ?_
      exact j_iret (D_Model_reignOn 14 rfl) rfl (hx2) rfl rfl (leafIo h (wr_n (hx2)))
    · replace h := ite_f h c1
      refine j_iinc (k := 2) (L' := [(2, vi (wr (x2 + (-1)))), (0, rf X 81), (1, vi x1)]) (D_Model_reignOn 11 rfl) rfl rfl (by decide) rfl ?_
      refine j_goto (tgt := 7) (D_Model_reignOn 12 rfl) rfl ?_
      refine j_loc [1, 2, 0] rfl ?_
      exact ih (hx1) (wr_wr _) h
def f_Model_reignOn (G : GS) (a1 : Int) : Option (Int) :=
  f_Model_reignOn_L7 G FU a1 (wr ((gi G 81 16) - 1))
theorem c_Model_reignOn {X : XT} {G : GS} {a1 : Int} {r : Int} (ha1 : wr a1 = a1) (h : f_Model_reignOn G a1 = some r) : Call X true 6 0 0 M_Model_reignOn [rf X 81, vi a1] NC G (Ri r G) := by
  refine Call_of_J cw_Model_reignOn (by decide +kernel) (Nat.le_of_ble_eq_true rfl) ?_
  unfold f_Model_reignOn at h
  show J X true 6 0 0 M_Model_reignOn (Ri r G) NC 0 0 0 [(0, rf X 81), (1, vi a1)] [] G
  refine j_aloadn (k := 0) (D_Model_reignOn 0 rfl) rfl rfl ?_
  refine j_getI rfl fa_Model_181 kd_81 lc_81 (by decide) rfl (D_Model_reignOn 1 rfl) ?_
  refine j_iconst (v := 1) (D_Model_reignOn 2 rfl) rfl ?_
  refine j_isub (D_Model_reignOn 3 rfl) ?_
  refine j_istoren (L' := [(2, vi (wr ((gi G 81 16) - 1))), (0, rf X 81), (1, vi a1)]) (D_Model_reignOn 4 rfl) rfl (rfl) (by decide) rfl ?_
  refine j_loc [1, 2, 0] rfl ?_
  exact s_Model_reignOn_L7 FU (ha1) (wr_wr _) h
abbrev M_Model_lawOn : MI := (⟨"InquestHallModel", "lawOn", "(II)I"⟩, prog_14_method_52_code, 5, (some .int))
theorem cw_Model_lawOn : Cond.code M_Model_lawOn.1 M_Model_lawOn.2.1 M_Model_lawOn.2.2.1 M_Model_lawOn.2.2.2 ∈ TS := mTS (List.mem_of_getElem? (i := 1786) (by decide +kernel)) (by decide +kernel)
theorem lk_Model_417 : Cond.methodLink "InquestHallModel" 417 M_Model_reignOn.1 ∈ TS := mTS (List.mem_of_getElem? (i := 1787) (by decide +kernel)) (by decide +kernel)
theorem mok_Model_reignOn : MOK M_Model_reignOn 1 := ⟨mTS (List.mem_of_getElem? (i := 1789) (by decide +kernel)) (by decide +kernel), mTS (List.mem_of_getElem? (i := 88) (by decide +kernel)) (by decide +kernel), mTS (List.mem_of_getElem? (i := 139) (by decide +kernel)) (by decide +kernel), cw_Model_reignOn, ⟨by decide, by decide, by decide +kernel⟩, by decide +kernel, by decide⟩
def tb_Model_lawOn : List (Nat × Instr × Nat) := [(0, .iload_n 1, 1), (1, .invokestatic 202, 3), (4, .ifCond .ne 5, 3), (7, .iconst (-1), 1), (8, .ireturn, 1), (9, .aload_n 0, 1), (10, .iload_n 1, 1), (11, .invokevirtual 417, 3), (14, .istore_n 3, 1), (15, .iload_n 2, 1), (16, .tableswitch 66 0 4 #[36, 38, 45, 52, 59], 36), (52, .iload_n 3, 1), (53, .ireturn, 1), (54, .aload_n 0, 1), (55, .getfield 52, 3), (58, .iload_n 3, 1), (59, .iaload, 1), (60, .ireturn, 1), (61, .aload_n 0, 1), (62, .getfield 55, 3), (65, .iload_n 3, 1), (66, .iaload, 1), (67, .ireturn, 1), (68, .aload_n 0, 1), (69, .getfield 58, 3), (72, .iload_n 3, 1), (73, .iaload, 1), (74, .ireturn, 1), (75, .aload_n 0, 1), (76, .getfield 61, 3), (79, .iload_n 3, 1), (80, .iaload, 1), (81, .ireturn, 1), (82, .iload_n 2, 1), (83, .iconst 5, 1), (84, .bipush 8, 2), (86, .invokestatic 188, 3), (89, .ifCond .eq 16, 3), (92, .aload_n 0, 1), (93, .getfield 64, 3), (96, .iconst 4, 1), (97, .iload_n 3, 1), (98, .imul, 1), (99, .iload_n 2, 1), (100, .iadd, 1), (101, .iconst 5, 1), (102, .isub, 1), (103, .iaload, 1), (104, .ireturn, 1), (105, .iload_n 2, 1), (106, .bipush 10, 2), (108, .bipush 18, 2), (110, .invokestatic 188, 3), (113, .ifCond .ne 5, 3), (116, .iconst (-1), 1), (117, .ireturn, 1), (118, .iconst 3, 1), (119, .iload_n 3, 1), (120, .imul, 1), (121, .iload_n 2, 1), (122, .bipush 10, 2), (124, .isub, 1), (125, .iconst 3, 1), (126, .idiv, 1), (127, .iadd, 1), (128, .istore 4, 2), (130, .iload_n 2, 1), (131, .iconst 3, 1), (132, .irem, 1), (133, .iconst 1, 1), (134, .if_icmp .ne 13, 3), (137, .aload_n 0, 1), (138, .getfield 67, 3), (141, .iload 4, 2), (143, .iaload, 1), (144, .goto 27, 3), (147, .iload_n 2, 1), (148, .iconst 3, 1), (149, .irem, 1), (150, .iconst 2, 1), (151, .if_icmp .ne 13, 3), (154, .aload_n 0, 1), (155, .getfield 70, 3), (158, .iload 4, 2), (160, .iaload, 1), (161, .goto 10, 3), (164, .aload_n 0, 1), (165, .getfield 73, 3), (168, .iload 4, 2), (170, .iaload, 1), (171, .ireturn, 1)]
theorem D_Model_lawOn (i : Nat) {pc len : Nat} {ins : Instr} (hi : tb_Model_lawOn[i]? = some (pc, ins, len)) : decode M_Model_lawOn.2.1 pc = .ok (ins, len) := dec_of (by decide +kernel) i hi
def f_Model_lawOn (G : GS) (a1 : Int) (a2 : Int) : Option (Int) :=
  (f_Model_isDay G a1).bind fun q1 =>
  if q1 = 0 then
    some (-1)
  else
    (f_Model_reignOn G a1).bind fun q2 =>
    if a2 = 0 then
      some q2
    else
      if a2 = 1 then
        gd (0 ≤ q2 ∧ q2 < 4) <|
        some (gi G 96 q2.toNat)
      else
        if a2 = 2 then
          gd (0 ≤ q2 ∧ q2 < 4) <|
          some (gi G 97 q2.toNat)
        else
          if a2 = 3 then
            gd (0 ≤ q2 ∧ q2 < 4) <|
            some (gi G 98 q2.toNat)
          else
            if a2 = 4 then
              gd (0 ≤ q2 ∧ q2 < 4) <|
              some (gi G 99 q2.toNat)
            else
              (f_Model_isIn G a2 5 8).bind fun q3 =>
              if q3 = 0 then
                (f_Model_isIn G a2 10 18).bind fun q4 =>
                if q4 = 0 then
                  some (-1)
                else
                  if md a2 3 = 1 then
                    gd (0 ≤ wr ((3 * q2) + (dv (a2 - 10) 3)) ∧ wr ((3 * q2) + (dv (a2 - 10) 3)) < 12) <|
                    some (gi G 101 (wr ((3 * q2) + (dv (a2 - 10) 3))).toNat)
                  else
                    if md a2 3 = 2 then
                      gd (0 ≤ wr ((3 * q2) + (dv (a2 - 10) 3)) ∧ wr ((3 * q2) + (dv (a2 - 10) 3)) < 12) <|
                      some (gi G 102 (wr ((3 * q2) + (dv (a2 - 10) 3))).toNat)
                    else
                      gd (0 ≤ wr ((3 * q2) + (dv (a2 - 10) 3)) ∧ wr ((3 * q2) + (dv (a2 - 10) 3)) < 12) <|
                      some (gi G 103 (wr ((3 * q2) + (dv (a2 - 10) 3))).toNat)
              else
                gd (0 ≤ wr (((4 * q2) + a2) - 5) ∧ wr (((4 * q2) + a2) - 5) < 16) <|
                some (gi G 100 (wr (((4 * q2) + a2) - 5)).toNat)
theorem c_Model_lawOn {X : XT} {G : GS} {a1 : Int} {a2 : Int} {r : Int} (ha1 : wr a1 = a1) (ha2 : wr a2 = a2) (h : f_Model_lawOn G a1 a2 = some r) : Call X true 8 0 0 M_Model_lawOn [rf X 81, vi a1, vi a2] NC G (Ri r G) := by
  refine Call_of_J cw_Model_lawOn (by decide +kernel) (Nat.le_of_ble_eq_true rfl) ?_
  unfold f_Model_lawOn at h
  show J X true 8 0 0 M_Model_lawOn (Ri r G) NC 0 0 0 [(0, rf X 81), (1, vi a1), (2, vi a2)] [] G
  refine j_iloadn (k := 1) (D_Model_lawOn 0 rfl) rfl rfl ?_
  obtain ⟨q1, e1, h⟩ := Option.bind_eq_some_iff.mp h
  refine j_cSz (c_Model_isDay (ha1) e1) rfl lk_Model_202 sok_Model_isDay (by decide) rfl rfl (Nat.le_of_ble_eq_true rfl) (D_Model_lawOn 1 rfl) (fun w1 bw1 => ?_)
  refine j_if_ne (tgt := 9) (D_Model_lawOn 2 rfl) rfl (w1) (fun c1 => ?_) (fun c1 => ?_)
  · replace h := ite_f h c1
    refine j_aloadn (k := 0) (D_Model_lawOn 5 rfl) rfl rfl ?_
    refine j_iloadn (k := 1) (D_Model_lawOn 6 rfl) rfl rfl ?_
    obtain ⟨q2, e2, h⟩ := Option.bind_eq_some_iff.mp h
    refine j_cVi (c_Model_reignOn (ha1) e2) rfl lk_Model_417 mok_Model_reignOn kd_81 lc_81 rfl (by decide) rfl rfl (Nat.le_of_ble_eq_true rfl) (D_Model_lawOn 7 rfl) (fun w2 => ?_)
    refine j_istoren (L' := [(3, vi q2), (0, rf X 81), (1, vi a1), (2, vi a2)]) (D_Model_lawOn 8 rfl) rfl (w2) (by decide) rfl ?_
    refine j_iloadn (k := 3) (D_Model_lawOn 9 rfl) rfl rfl ?_
    by_cases c2 : a2 = 0
    · replace h := ite_t h c2
      refine j_tIn (tgt := 52) (D_Model_lawOn 10 rfl) (ha2) c2 (by decide) (by decide) rfl rfl ?_
      refine j_iloadn (k := 0) (D_Model_lawOn 11 rfl) rfl rfl ?_
      exact j_iret (D_Model_lawOn 12 rfl) rfl (w2) rfl rfl (leafIo h (wr_n (w2)))
    · replace h := ite_f h c2
      by_cases c3 : a2 = 1
      · replace h := ite_t h c3
        refine j_tIn (tgt := 54) (D_Model_lawOn 10 rfl) (ha2) c3 (by decide) (by decide) rfl rfl ?_
        refine j_aloadn (k := 1) (D_Model_lawOn 13 rfl) rfl rfl ?_
        refine j_getR rfl fa_Model_52 kd_81 lc_81 (by decide) rfl fx_81_18 (by decide) (D_Model_lawOn 14 rfl) ?_
        refine j_iloadn (k := 0) (D_Model_lawOn 15 rfl) rfl rfl ?_
        have g1 := gd_c h
        replace h := gd_s h
        refine j_iald (NI := 4) (D_Model_lawOn 16 rfl) kd_96 lc_96 (w2) rfl g1.1 g1.2 ?_
        exact j_iret (D_Model_lawOn 17 rfl) rfl (wr_gi _ _ _) rfl rfl (leafIo h (wr_n (wr_gi _ _ _)))
      · replace h := ite_f h c3
        by_cases c4 : a2 = 2
        · replace h := ite_t h c4
          refine j_tIn (tgt := 61) (D_Model_lawOn 10 rfl) (ha2) c4 (by decide) (by decide) rfl rfl ?_
          refine j_aloadn (k := 1) (D_Model_lawOn 18 rfl) rfl rfl ?_
          refine j_getR rfl fa_Model_55 kd_81 lc_81 (by decide) rfl fx_81_19 (by decide) (D_Model_lawOn 19 rfl) ?_
          refine j_iloadn (k := 0) (D_Model_lawOn 20 rfl) rfl rfl ?_
          have g2 := gd_c h
          replace h := gd_s h
          refine j_iald (NI := 4) (D_Model_lawOn 21 rfl) kd_97 lc_97 (w2) rfl g2.1 g2.2 ?_
          exact j_iret (D_Model_lawOn 22 rfl) rfl (wr_gi _ _ _) rfl rfl (leafIo h (wr_n (wr_gi _ _ _)))
        · replace h := ite_f h c4
          by_cases c5 : a2 = 3
          · replace h := ite_t h c5
            refine j_tIn (tgt := 68) (D_Model_lawOn 10 rfl) (ha2) c5 (by decide) (by decide) rfl rfl ?_
            refine j_aloadn (k := 1) (D_Model_lawOn 23 rfl) rfl rfl ?_
            refine j_getR rfl fa_Model_58 kd_81 lc_81 (by decide) rfl fx_81_20 (by decide) (D_Model_lawOn 24 rfl) ?_
            refine j_iloadn (k := 0) (D_Model_lawOn 25 rfl) rfl rfl ?_
            have g3 := gd_c h
            replace h := gd_s h
            refine j_iald (NI := 4) (D_Model_lawOn 26 rfl) kd_98 lc_98 (w2) rfl g3.1 g3.2 ?_
            exact j_iret (D_Model_lawOn 27 rfl) rfl (wr_gi _ _ _) rfl rfl (leafIo h (wr_n (wr_gi _ _ _)))
          · replace h := ite_f h c5
            by_cases c6 : a2 = 4
            · replace h := ite_t h c6
              refine j_tIn (tgt := 75) (D_Model_lawOn 10 rfl) (ha2) c6 (by decide) (by decide) rfl rfl ?_
              refine j_aloadn (k := 1) (D_Model_lawOn 28 rfl) rfl rfl ?_
              refine j_getR rfl fa_Model_61 kd_81 lc_81 (by decide) rfl fx_81_21 (by decide) (D_Model_lawOn 29 rfl) ?_
              refine j_iloadn (k := 0) (D_Model_lawOn 30 rfl) rfl rfl ?_
              have g4 := gd_c h
              replace h := gd_s h
              refine j_iald (NI := 4) (D_Model_lawOn 31 rfl) kd_99 lc_99 (w2) rfl g4.1 g4.2 ?_
              exact j_iret (D_Model_lawOn 32 rfl) rfl (wr_gi _ _ _) rfl rfl (leafIo h (wr_n (wr_gi _ _ _)))
            · replace h := ite_f h c6
              refine j_tOut (tgt := 82) (D_Model_lawOn 10 rfl) (ha2) (by omega) rfl ?_
              refine j_iloadn (k := 3) (D_Model_lawOn 33 rfl) rfl rfl ?_
              refine j_iconst (v := 5) (D_Model_lawOn 34 rfl) rfl ?_
              refine j_bipush (v := 8) (D_Model_lawOn 35 rfl) rfl ?_
              obtain ⟨q3, e3, h⟩ := Option.bind_eq_some_iff.mp h
              refine j_cSz (c_Model_isIn (ha2) (wr_lit rfl) (wr_lit rfl) e3) rfl lk_Model_188 sok_Model_isIn (by decide) rfl rfl (Nat.le_of_ble_eq_true rfl) (D_Model_lawOn 36 rfl) (fun w3 bw3 => ?_)
              refine j_if_eq (tgt := 105) (D_Model_lawOn 37 rfl) rfl (w3) (fun c7 => ?_) (fun c7 => ?_)
              · replace h := ite_t h c7
                refine j_iloadn (k := 3) (D_Model_lawOn 49 rfl) rfl rfl ?_
                refine j_bipush (v := 10) (D_Model_lawOn 50 rfl) rfl ?_
                refine j_bipush (v := 18) (D_Model_lawOn 51 rfl) rfl ?_
                obtain ⟨q4, e4, h⟩ := Option.bind_eq_some_iff.mp h
                refine j_cSz (c_Model_isIn (ha2) (wr_lit rfl) (wr_lit rfl) e4) rfl lk_Model_188 sok_Model_isIn (by decide) rfl rfl (Nat.le_of_ble_eq_true rfl) (D_Model_lawOn 52 rfl) (fun w4 bw4 => ?_)
                refine j_if_ne (tgt := 118) (D_Model_lawOn 53 rfl) rfl (w4) (fun c8 => ?_) (fun c8 => ?_)
                · replace h := ite_f h c8
                  refine j_iconst (v := 3) (D_Model_lawOn 56 rfl) rfl ?_
                  refine j_iloadn (k := 0) (D_Model_lawOn 57 rfl) rfl rfl ?_
                  refine j_imul (D_Model_lawOn 58 rfl) ?_
                  refine j_iloadn (k := 3) (D_Model_lawOn 59 rfl) rfl rfl ?_
                  refine j_bipush (v := 10) (D_Model_lawOn 60 rfl) rfl ?_
                  refine j_isub (D_Model_lawOn 61 rfl) ?_
                  refine j_iconst (v := 3) (D_Model_lawOn 62 rfl) rfl ?_
                  refine j_idiv (D_Model_lawOn 63 rfl) (wr_lit rfl) (by decide) ?_
                  refine j_iadd (D_Model_lawOn 64 rfl) ?_
                  refine j_istore (L' := [(4, vi (wr ((3 * q2) + (dv (a2 - 10) 3)))), (3, vi q2), (0, rf X 81), (1, vi a1), (2, vi a2)]) (D_Model_lawOn 65 rfl) (rfl) (by decide) rfl ?_
                  refine j_iloadn (k := 4) (D_Model_lawOn 66 rfl) rfl rfl ?_
                  refine j_iconst (v := 3) (D_Model_lawOn 67 rfl) rfl ?_
                  refine j_irem (D_Model_lawOn 68 rfl) (wr_lit rfl) (by decide) ?_
                  refine j_iconst (v := 1) (D_Model_lawOn 69 rfl) rfl ?_
                  refine j_ic_ne (tgt := 147) (D_Model_lawOn 70 rfl) rfl (wr_md _ _) (wr_lit rfl) (fun c9 => ?_) (fun c9 => ?_)
                  · replace h := ite_f h c9
                    refine j_iloadn (k := 4) (D_Model_lawOn 76 rfl) rfl rfl ?_
                    refine j_iconst (v := 3) (D_Model_lawOn 77 rfl) rfl ?_
                    refine j_irem (D_Model_lawOn 78 rfl) (wr_lit rfl) (by decide) ?_
                    refine j_iconst (v := 2) (D_Model_lawOn 79 rfl) rfl ?_
                    refine j_ic_ne (tgt := 164) (D_Model_lawOn 80 rfl) rfl (wr_md _ _) (wr_lit rfl) (fun c10 => ?_) (fun c10 => ?_)
                    · replace h := ite_f h c10
                      refine j_aloadn (k := 2) (D_Model_lawOn 86 rfl) rfl rfl ?_
                      refine j_getR rfl fa_Model_73 kd_81 lc_81 (by decide) rfl fx_81_25 (by decide) (D_Model_lawOn 87 rfl) ?_
                      refine j_iload (k := 0) (D_Model_lawOn 88 rfl) rfl ?_
                      have g5 := gd_c h
                      replace h := gd_s h
                      refine j_iald (NI := 12) (D_Model_lawOn 89 rfl) kd_103 lc_103 (wr_wr _) rfl g5.1 g5.2 ?_
                      exact j_iret (D_Model_lawOn 90 rfl) rfl (wr_gi _ _ _) rfl rfl (leafIo h (wr_n (wr_gi _ _ _)))
                    · replace h := ite_t h c10
                      refine j_aloadn (k := 2) (D_Model_lawOn 81 rfl) rfl rfl ?_
                      refine j_getR rfl fa_Model_70 kd_81 lc_81 (by decide) rfl fx_81_24 (by decide) (D_Model_lawOn 82 rfl) ?_
                      refine j_iload (k := 0) (D_Model_lawOn 83 rfl) rfl ?_
                      have g6 := gd_c h
                      replace h := gd_s h
                      refine j_iald (NI := 12) (D_Model_lawOn 84 rfl) kd_102 lc_102 (wr_wr _) rfl g6.1 g6.2 ?_
                      refine j_goto (tgt := 171) (D_Model_lawOn 85 rfl) rfl ?_
                      exact j_iret (D_Model_lawOn 90 rfl) rfl (wr_gi _ _ _) rfl rfl (leafIo h (wr_n (wr_gi _ _ _)))
                  · replace h := ite_t h c9
                    refine j_aloadn (k := 2) (D_Model_lawOn 71 rfl) rfl rfl ?_
                    refine j_getR rfl fa_Model_67 kd_81 lc_81 (by decide) rfl fx_81_23 (by decide) (D_Model_lawOn 72 rfl) ?_
                    refine j_iload (k := 0) (D_Model_lawOn 73 rfl) rfl ?_
                    have g7 := gd_c h
                    replace h := gd_s h
                    refine j_iald (NI := 12) (D_Model_lawOn 74 rfl) kd_101 lc_101 (wr_wr _) rfl g7.1 g7.2 ?_
                    refine j_goto (tgt := 171) (D_Model_lawOn 75 rfl) rfl ?_
                    exact j_iret (D_Model_lawOn 90 rfl) rfl (wr_gi _ _ _) rfl rfl (leafIo h (wr_n (wr_gi _ _ _)))
                · replace h := ite_t h c8
                  refine j_iconst (v := (-1)) (D_Model_lawOn 54 rfl) rfl ?_
                  exact j_iret (D_Model_lawOn 55 rfl) rfl (wr_lit rfl) rfl rfl (leafIo h (wr_n (wr_lit rfl)))
              · replace h := ite_f h c7
                refine j_aloadn (k := 1) (D_Model_lawOn 38 rfl) rfl rfl ?_
                refine j_getR rfl fa_Model_64 kd_81 lc_81 (by decide) rfl fx_81_22 (by decide) (D_Model_lawOn 39 rfl) ?_
                refine j_iconst (v := 4) (D_Model_lawOn 40 rfl) rfl ?_
                refine j_iloadn (k := 0) (D_Model_lawOn 41 rfl) rfl rfl ?_
                refine j_imul (D_Model_lawOn 42 rfl) ?_
                refine j_iloadn (k := 3) (D_Model_lawOn 43 rfl) rfl rfl ?_
                refine j_iadd (D_Model_lawOn 44 rfl) ?_
                refine j_iconst (v := 5) (D_Model_lawOn 45 rfl) rfl ?_
                refine j_isub (D_Model_lawOn 46 rfl) ?_
                have g8 := gd_c h
                replace h := gd_s h
                refine j_iald (NI := 16) (D_Model_lawOn 47 rfl) kd_100 lc_100 (rfl) rfl g8.1 g8.2 ?_
                exact j_iret (D_Model_lawOn 48 rfl) rfl (wr_gi _ _ _) rfl rfl (leafIo h (wr_n (wr_gi _ _ _)))
  · replace h := ite_t h c1
    refine j_iconst (v := (-1)) (D_Model_lawOn 3 rfl) rfl ?_
    exact j_iret (D_Model_lawOn 4 rfl) rfl (wr_lit rfl) rfl rfl (leafIo h (wr_n (wr_lit rfl)))
abbrev M_People_isAlive : MI := (⟨"InquestHall$People", "isAlive", "(II)Z"⟩, prog_8_method_7_code, 3, (some .boolean))
theorem cw_People_isAlive : Cond.code M_People_isAlive.1 M_People_isAlive.2.1 M_People_isAlive.2.2.1 M_People_isAlive.2.2.2 ∈ TS := mTS (List.mem_of_getElem? (i := 939) (by decide +kernel)) (by decide +kernel)
def tb_People_isAlive : List (Nat × Instr × Nat) := [(0, .aload_n 0, 1), (1, .iload_n 1, 1), (2, .invokevirtual 37, 3), (5, .ifCond .eq 37, 3), (8, .aload_n 0, 1), (9, .getfield 21, 3), (12, .iload_n 1, 1), (13, .iaload, 1), (14, .iload_n 2, 1), (15, .if_icmp .gt 27, 3), (18, .aload_n 0, 1), (19, .getfield 27, 3), (22, .iload_n 1, 1), (23, .iaload, 1), (24, .iconst (-1), 1), (25, .if_icmp .eq 13, 3), (28, .aload_n 0, 1), (29, .getfield 27, 3), (32, .iload_n 1, 1), (33, .iaload, 1), (34, .iload_n 2, 1), (35, .if_icmp .le 7, 3), (38, .iconst 1, 1), (39, .goto 4, 3), (42, .iconst 0, 1), (43, .ireturn, 1)]
theorem D_People_isAlive (i : Nat) {pc len : Nat} {ins : Instr} (hi : tb_People_isAlive[i]? = some (pc, ins, len)) : decode M_People_isAlive.2.1 pc = .ok (ins, len) := dec_of (by decide +kernel) i hi
def f_People_isAlive (G : GS) (a1 : Int) (a2 : Int) : Option (Int) :=
  (f_People_has G a1).bind fun q1 =>
  if q1 = 0 then
    some 0
  else
    gd (0 ≤ a1 ∧ a1 < 32) <|
    if a2 < gi G 5 a1.toNat then
      some 0
    else
      gd (0 ≤ a1 ∧ a1 < 32) <|
      if gi G 7 a1.toNat = (-1) then
        some 1
      else
        gd (0 ≤ a1 ∧ a1 < 32) <|
        if gi G 7 a1.toNat ≤ a2 then
          some 0
        else
          some 1
theorem c_People_isAlive {X : XT} {G : GS} {a1 : Int} {a2 : Int} {r : Int} (ha1 : wr a1 = a1) (ha2 : wr a2 = a2) (h : f_People_isAlive G a1 a2 = some r) : Call X true 7 0 0 M_People_isAlive [rf X 1, vi a1, vi a2] NC G (Rz r G) := by
  refine Call_of_J cw_People_isAlive (by decide +kernel) (Nat.le_of_ble_eq_true rfl) ?_
  unfold f_People_isAlive at h
  show J X true 7 0 0 M_People_isAlive (Rz r G) NC 0 0 0 [(0, rf X 1), (1, vi a1), (2, vi a2)] [] G
  refine j_aloadn (k := 0) (D_People_isAlive 0 rfl) rfl rfl ?_
  refine j_iloadn (k := 1) (D_People_isAlive 1 rfl) rfl rfl ?_
  obtain ⟨q1, e1, h⟩ := Option.bind_eq_some_iff.mp h
  refine j_cVz (c_People_has (ha1) e1) rfl lk_People_37 mok_People_has kd_1 lc_1 rfl (by decide) rfl rfl (Nat.le_of_ble_eq_true rfl) (D_People_isAlive 2 rfl) (fun w1 bw1 => ?_)
  refine j_if_eq (tgt := 42) (D_People_isAlive 3 rfl) rfl (w1) (fun c1 => ?_) (fun c1 => ?_)
  · replace h := ite_t h c1
    refine j_iconst (v := 0) (D_People_isAlive 24 rfl) rfl ?_
    exact j_zret (D_People_isAlive 25 rfl) rfl (wr_lit rfl) (nz_01 (by decide)) rfl rfl (leafZo h (wr_n (wr_lit rfl)) (by decide))
  · replace h := ite_f h c1
    refine j_aloadn (k := 0) (D_People_isAlive 4 rfl) rfl rfl ?_
    refine j_getR rfl fa_People_21 kd_1 lc_1 (by decide) rfl fx_1_3 (by decide) (D_People_isAlive 5 rfl) ?_
    refine j_iloadn (k := 1) (D_People_isAlive 6 rfl) rfl rfl ?_
    have g1 := gd_c h
    replace h := gd_s h
    refine j_iald (NI := 32) (D_People_isAlive 7 rfl) kd_5 lc_5 (ha1) rfl g1.1 g1.2 ?_
    refine j_iloadn (k := 2) (D_People_isAlive 8 rfl) rfl rfl ?_
    refine j_ic_gt (tgt := 42) (D_People_isAlive 9 rfl) rfl (wr_gi _ _ _) (ha2) (fun c2 => ?_) (fun c2 => ?_)
    · replace h := ite_t h c2
      refine j_iconst (v := 0) (D_People_isAlive 24 rfl) rfl ?_
      exact j_zret (D_People_isAlive 25 rfl) rfl (wr_lit rfl) (nz_01 (by decide)) rfl rfl (leafZo h (wr_n (wr_lit rfl)) (by decide))
    · replace h := ite_f h c2
      refine j_aloadn (k := 0) (D_People_isAlive 10 rfl) rfl rfl ?_
      refine j_getR rfl fa_People_27 kd_1 lc_1 (by decide) rfl fx_1_5 (by decide) (D_People_isAlive 11 rfl) ?_
      refine j_iloadn (k := 1) (D_People_isAlive 12 rfl) rfl rfl ?_
      have g2 := gd_c h
      replace h := gd_s h
      refine j_iald (NI := 32) (D_People_isAlive 13 rfl) kd_7 lc_7 (ha1) rfl g2.1 g2.2 ?_
      refine j_iconst (v := (-1)) (D_People_isAlive 14 rfl) rfl ?_
      refine j_ic_eq (tgt := 38) (D_People_isAlive 15 rfl) rfl (wr_gi _ _ _) (wr_lit rfl) (fun c3 => ?_) (fun c3 => ?_)
      · replace h := ite_t h c3
        refine j_iconst (v := 1) (D_People_isAlive 22 rfl) rfl ?_
        refine j_goto (tgt := 43) (D_People_isAlive 23 rfl) rfl ?_
        exact j_zret (D_People_isAlive 25 rfl) rfl (wr_lit rfl) (nz_01 (by decide)) rfl rfl (leafZo h (wr_n (wr_lit rfl)) (by decide))
      · replace h := ite_f h c3
        refine j_aloadn (k := 0) (D_People_isAlive 16 rfl) rfl rfl ?_
        refine j_getR rfl fa_People_27 kd_1 lc_1 (by decide) rfl fx_1_5 (by decide) (D_People_isAlive 17 rfl) ?_
        refine j_iloadn (k := 1) (D_People_isAlive 18 rfl) rfl rfl ?_
        have g3 := gd_c h
        replace h := gd_s h
        refine j_iald (NI := 32) (D_People_isAlive 19 rfl) kd_7 lc_7 (ha1) rfl g3.1 g3.2 ?_
        refine j_iloadn (k := 2) (D_People_isAlive 20 rfl) rfl rfl ?_
        refine j_ic_le (tgt := 42) (D_People_isAlive 21 rfl) rfl (wr_gi _ _ _) (ha2) (fun c4 => ?_) (fun c4 => ?_)
        · replace h := ite_t h c4
          refine j_iconst (v := 0) (D_People_isAlive 24 rfl) rfl ?_
          exact j_zret (D_People_isAlive 25 rfl) rfl (wr_lit rfl) (nz_01 (by decide)) rfl rfl (leafZo h (wr_n (wr_lit rfl)) (by decide))
        · replace h := ite_f h c4
          refine j_iconst (v := 1) (D_People_isAlive 22 rfl) rfl ?_
          refine j_goto (tgt := 43) (D_People_isAlive 23 rfl) rfl ?_
          exact j_zret (D_People_isAlive 25 rfl) rfl (wr_lit rfl) (nz_01 (by decide)) rfl rfl (leafZo h (wr_n (wr_lit rfl)) (by decide))
abbrev M_Descent_stockOf : MI := (⟨"InquestHall$Descent", "stockOf", "(II)I"⟩, prog_2_method_8_code, 6, (some .int))
theorem cw_Descent_stockOf : Cond.code M_Descent_stockOf.1 M_Descent_stockOf.2.1 M_Descent_stockOf.2.2.1 M_Descent_stockOf.2.2.2 ∈ TS := mTS (List.mem_of_getElem? (i := 943) (by decide +kernel)) (by decide +kernel)
theorem fa_Descent_27 : FA "InquestHall$Descent" 27 7 0 true (.object "InquestHall$People") := ⟨_, _, _, _, ok_Descent, by decide, mTS (List.mem_of_getElem? (i := 426) (by decide +kernel)) (by decide +kernel), rfl, rfl⟩
theorem kd_30 : kd 30 = (7 + 5, 8) := rfl
theorem lc_30 : 30 < NC := by decide
theorem fx_30_0 {G : GS} (w : WF true NC G) : G.2.2 30 0 = 1 := w.2 rfl (30, 0, 1) (by decide)
theorem fa_Descent_31 : FA "InquestHall$Descent" 31 1 7 false .int := ⟨_, _, _, _, ok_People, by decide, mTS (List.mem_of_getElem? (i := 175) (by decide +kernel)) (by decide +kernel), rfl, rfl⟩
theorem fa_Descent_41 : FA "InquestHall$Descent" 41 7 3 false .int := ⟨_, _, _, _, ok_Descent, by decide, mTS (List.mem_of_getElem? (i := 429) (by decide +kernel)) (by decide +kernel), rfl, rfl⟩
theorem fa_Descent_62 : FA "InquestHall$Descent" 62 1 1 true (.array .int) := ⟨_, _, _, _, ok_People, by decide, mTS (List.mem_of_getElem? (i := 159) (by decide +kernel)) (by decide +kernel), rfl, rfl⟩
theorem fa_Descent_65 : FA "InquestHall$Descent" 65 1 2 true (.array .int) := ⟨_, _, _, _, ok_People, by decide, mTS (List.mem_of_getElem? (i := 162) (by decide +kernel)) (by decide +kernel), rfl, rfl⟩
theorem fa_Descent_68 : FA "InquestHall$Descent" 68 1 3 true (.array .int) := ⟨_, _, _, _, ok_People, by decide, mTS (List.mem_of_getElem? (i := 166) (by decide +kernel)) (by decide +kernel), rfl, rfl⟩
theorem fa_Descent_35 : FA "InquestHall$Descent" 35 7 1 false .int := ⟨_, _, _, _, ok_Descent, by decide, mTS (List.mem_of_getElem? (i := 427) (by decide +kernel)) (by decide +kernel), rfl, rfl⟩
theorem fa_Descent_11 : FA "InquestHall$Descent" 11 7 4 true (.array .int) := ⟨_, _, _, _, ok_Descent, by decide, mTS (List.mem_of_getElem? (i := 430) (by decide +kernel)) (by decide +kernel), rfl, rfl⟩
theorem fx_30_4 {G : GS} (w : WF true NC G) : G.2.2 30 4 = 31 := w.2 rfl (30, 4, 31) (by decide)
theorem kd_31 : kd 31 = (0, 33) := rfl
theorem lc_31 : 31 < NC := by decide
def tb_Descent_stockOf : List (Nat × Instr × Nat) := [(0, .iconst 0, 1), (1, .istore_n 3, 1), (2, .iload_n 1, 1), (3, .iconst 1, 1), (4, .iadd, 1), (5, .istore 4, 2), (7, .iload 4, 2), (9, .aload_n 0, 1), (10, .getfield 27, 3), (13, .getfield 31, 3), (16, .if_icmp .ge 89, 3), (19, .aload_n 0, 1), (20, .getfield 27, 3), (23, .getfield 62, 3), (26, .iload 4, 2), (28, .iaload, 1), (29, .iload_n 1, 1), (30, .if_icmp .eq 17, 3), (33, .aload_n 0, 1), (34, .getfield 27, 3), (37, .getfield 65, 3), (40, .iload 4, 2), (42, .iaload, 1), (43, .iload_n 1, 1), (44, .if_icmp .ne 7, 3), (47, .iconst 1, 1), (48, .goto 4, 3), (51, .iconst 0, 1), (52, .istore 5, 2), (54, .iload 5, 2), (56, .ifCond .eq 43, 3), (59, .iload 4, 2), (61, .iload_n 2, 1), (62, .if_icmp .eq 37, 3), (65, .aload_n 0, 1), (66, .getfield 27, 3), (69, .getfield 68, 3), (72, .iload 4, 2), (74, .iaload, 1), (75, .aload_n 0, 1), (76, .getfield 35, 3), (79, .if_icmp .gt 20, 3), (82, .aload_n 0, 1), (83, .getfield 11, 3), (86, .iload 4, 2), (88, .iaload, 1), (89, .ifCond .eq 10, 3), (92, .iload_n 3, 1), (93, .iconst 1, 1), (94, .iload 4, 2), (96, .ishl, 1), (97, .ior, 1), (98, .istore_n 3, 1), (99, .iinc 4 1, 3), (102, .goto (-95), 3), (105, .iload_n 3, 1), (106, .aload_n 0, 1), (107, .getfield 41, 3), (110, .iand, 1), (111, .ifCond .eq 12, 3), (114, .iload_n 3, 1), (115, .aload_n 0, 1), (116, .getfield 41, 3), (119, .iand, 1), (120, .goto 4, 3), (123, .iload_n 3, 1), (124, .ireturn, 1)]
theorem D_Descent_stockOf (i : Nat) {pc len : Nat} {ins : Instr} (hi : tb_Descent_stockOf[i]? = some (pc, ins, len)) : decode M_Descent_stockOf.2.1 pc = .ok (ins, len) := dec_of (by decide +kernel) i hi
def f_Descent_stockOf_L99 (G : GS) (k7 : Int → Int → Int → Int → Option (Int)) (x1 : Int) (x2 : Int) (x3 : Int) (x4 : Int) : Option (Int) :=
  k7 x1 x2 x3 (wr (x4 + 1))
theorem s_Descent_stockOf_L99 {X : XT} {G : GS} {r : Int} {k7 : Int → Int → Int → Int → Option (Int)} (hk7 : ∀ {x1 : Int} {x2 : Int} {x3 : Int} {x4 : Int} , wr x1 = x1 → wr x2 = x2 → wr x3 = x3 → wr x4 = x4 → k7 x1 x2 x3 x4 = some r → J X true 6 0 0 M_Descent_stockOf (Ri r G) NC 0 0 7 [(0, rf X 30), (1, vi x1), (2, vi x2), (3, vi x3), (4, vi x4)] [] G) : ∀ {x1 : Int} {x2 : Int} {x3 : Int} {x4 : Int}, wr x1 = x1 → wr x2 = x2 → wr x3 = x3 → wr x4 = x4 → f_Descent_stockOf_L99 G k7 x1 x2 x3 x4 = some r → J X true 6 0 0 M_Descent_stockOf (Ri r G) NC 0 0 99 [(0, rf X 30), (1, vi x1), (2, vi x2), (3, vi x3), (4, vi x4)] [] G := by
  intro x1 x2 x3 x4 hx1 hx2 hx3 hx4 h
  unfold f_Descent_stockOf_L99 at h
  refine j_iinc (k := 4) (L' := [(4, vi (wr (x4 + 1))), (0, rf X 30), (1, vi x1), (2, vi x2), (3, vi x3)]) (D_Descent_stockOf 53 rfl) rfl rfl (by decide) rfl ?_
  refine j_goto (tgt := 7) (D_Descent_stockOf 54 rfl) rfl ?_
  refine j_loc [1, 2, 3, 4, 0] rfl ?_
  exact hk7 (hx1) (hx2) (hx3) (wr_wr _) h
def f_Descent_stockOf_L52 (G : GS) (k7 : Int → Int → Int → Int → Option (Int)) (x1 : Int) (x2 : Int) (x3 : Int) (x4 : Int) (s0 : Int) : Option (Int) :=
  if s0 = 0 then
    f_Descent_stockOf_L99 G k7 x1 x2 x3 x4
  else
    if x4 = x2 then
      f_Descent_stockOf_L99 G k7 x1 x2 x3 x4
    else
      gd (0 ≤ x4 ∧ x4 < 32) <|
      if gi G 30 1 < gi G 5 x4.toNat then
        f_Descent_stockOf_L99 G k7 x1 x2 x3 x4
      else
        gd (0 ≤ x4 ∧ x4 < 33) <|
        if gi G 31 x4.toNat = 0 then
          f_Descent_stockOf_L99 G k7 x1 x2 x3 x4
        else
          f_Descent_stockOf_L99 G k7 x1 x2 (bOr x3 (bShl 1 x4)) x4
theorem s_Descent_stockOf_L52 {X : XT} {G : GS} {r : Int} {k7 : Int → Int → Int → Int → Option (Int)} (hk7 : ∀ {x1 : Int} {x2 : Int} {x3 : Int} {x4 : Int} , wr x1 = x1 → wr x2 = x2 → wr x3 = x3 → wr x4 = x4 → k7 x1 x2 x3 x4 = some r → J X true 6 0 0 M_Descent_stockOf (Ri r G) NC 0 0 7 [(0, rf X 30), (1, vi x1), (2, vi x2), (3, vi x3), (4, vi x4)] [] G) : ∀ {x1 : Int} {x2 : Int} {x3 : Int} {x4 : Int} {s0 : Int}, wr x1 = x1 → wr x2 = x2 → wr x3 = x3 → wr x4 = x4 → wr s0 = s0 → f_Descent_stockOf_L52 G k7 x1 x2 x3 x4 s0 = some r → J X true 6 0 0 M_Descent_stockOf (Ri r G) NC 0 0 52 [(0, rf X 30), (1, vi x1), (2, vi x2), (3, vi x3), (4, vi x4)] [vi s0] G := by
  intro x1 x2 x3 x4 s0 hx1 hx2 hx3 hx4 hs0 h
  unfold f_Descent_stockOf_L52 at h
  refine j_istore (L' := [(5, vi s0), (0, rf X 30), (1, vi x1), (2, vi x2), (3, vi x3), (4, vi x4)]) (D_Descent_stockOf 28 rfl) (hs0) (by decide) rfl ?_
  refine j_iload (k := 0) (D_Descent_stockOf 29 rfl) rfl ?_
  refine j_if_eq (tgt := 99) (D_Descent_stockOf 30 rfl) rfl (hs0) (fun c1 => ?_) (fun c1 => ?_)
  · replace h := ite_t h c1
    refine j_loc [1, 2, 3, 4, 5] rfl ?_
    exact s_Descent_stockOf_L99 hk7 (hx1) (hx2) (hx3) (hx4) h
  · replace h := ite_f h c1
    refine j_iload (k := 5) (D_Descent_stockOf 31 rfl) rfl ?_
    refine j_iloadn (k := 3) (D_Descent_stockOf 32 rfl) rfl rfl ?_
    refine j_ic_eq (tgt := 99) (D_Descent_stockOf 33 rfl) rfl (hx4) (hx2) (fun c2 => ?_) (fun c2 => ?_)
    · replace h := ite_t h c2
      refine j_loc [1, 2, 3, 4, 5] rfl ?_
      exact s_Descent_stockOf_L99 hk7 (hx1) (hx2) (hx3) (hx4) h
    · replace h := ite_f h c2
      refine j_aloadn (k := 1) (D_Descent_stockOf 34 rfl) rfl rfl ?_
      refine j_getR rfl fa_Descent_27 kd_30 lc_30 (by decide) rfl fx_30_0 (by decide) (D_Descent_stockOf 35 rfl) ?_
      refine j_getR rfl fa_Descent_68 kd_1 lc_1 (by decide) rfl fx_1_3 (by decide) (D_Descent_stockOf 36 rfl) ?_
      refine j_iload (k := 5) (D_Descent_stockOf 37 rfl) rfl ?_
      have g1 := gd_c h
      replace h := gd_s h
      refine j_iald (NI := 32) (D_Descent_stockOf 38 rfl) kd_5 lc_5 (hx4) rfl g1.1 g1.2 ?_
      refine j_aloadn (k := 1) (D_Descent_stockOf 39 rfl) rfl rfl ?_
      refine j_getI rfl fa_Descent_35 kd_30 lc_30 (by decide) rfl (D_Descent_stockOf 40 rfl) ?_
      refine j_ic_gt (tgt := 99) (D_Descent_stockOf 41 rfl) rfl (wr_gi _ _ _) (wr_gi _ _ _) (fun c3 => ?_) (fun c3 => ?_)
      · replace h := ite_t h c3
        refine j_loc [1, 2, 3, 4, 5] rfl ?_
        exact s_Descent_stockOf_L99 hk7 (hx1) (hx2) (hx3) (hx4) h
      · replace h := ite_f h c3
        refine j_aloadn (k := 1) (D_Descent_stockOf 42 rfl) rfl rfl ?_
        refine j_getR rfl fa_Descent_11 kd_30 lc_30 (by decide) rfl fx_30_4 (by decide) (D_Descent_stockOf 43 rfl) ?_
        refine j_iload (k := 5) (D_Descent_stockOf 44 rfl) rfl ?_
        have g2 := gd_c h
        replace h := gd_s h
        refine j_iald (NI := 33) (D_Descent_stockOf 45 rfl) kd_31 lc_31 (hx4) rfl g2.1 g2.2 ?_
        refine j_if_eq (tgt := 99) (D_Descent_stockOf 46 rfl) rfl (wr_gi _ _ _) (fun c4 => ?_) (fun c4 => ?_)
        · replace h := ite_t h c4
          refine j_loc [1, 2, 3, 4, 5] rfl ?_
          exact s_Descent_stockOf_L99 hk7 (hx1) (hx2) (hx3) (hx4) h
        · replace h := ite_f h c4
          refine j_iloadn (k := 4) (D_Descent_stockOf 47 rfl) rfl rfl ?_
          refine j_iconst (v := 1) (D_Descent_stockOf 48 rfl) rfl ?_
          refine j_iload (k := 5) (D_Descent_stockOf 49 rfl) rfl ?_
          refine j_ishl (D_Descent_stockOf 50 rfl) ?_
          refine j_ior (D_Descent_stockOf 51 rfl) ?_
          refine j_istoren (L' := [(3, vi (bOr x3 (bShl 1 x4))), (5, vi s0), (0, rf X 30), (1, vi x1), (2, vi x2), (4, vi x4)]) (D_Descent_stockOf 52 rfl) rfl (wr_bOr _ _) (by decide) rfl ?_
          refine j_loc [2, 3, 4, 0, 5] rfl ?_
          exact s_Descent_stockOf_L99 hk7 (hx1) (hx2) (wr_bOr _ _) (hx4) h
def f_Descent_stockOf_L47 (G : GS) (k7 : Int → Int → Int → Int → Option (Int)) (x1 : Int) (x2 : Int) (x3 : Int) (x4 : Int) : Option (Int) :=
  f_Descent_stockOf_L52 G k7 x1 x2 x3 x4 1
theorem s_Descent_stockOf_L47 {X : XT} {G : GS} {r : Int} {k7 : Int → Int → Int → Int → Option (Int)} (hk7 : ∀ {x1 : Int} {x2 : Int} {x3 : Int} {x4 : Int} , wr x1 = x1 → wr x2 = x2 → wr x3 = x3 → wr x4 = x4 → k7 x1 x2 x3 x4 = some r → J X true 6 0 0 M_Descent_stockOf (Ri r G) NC 0 0 7 [(0, rf X 30), (1, vi x1), (2, vi x2), (3, vi x3), (4, vi x4)] [] G) : ∀ {x1 : Int} {x2 : Int} {x3 : Int} {x4 : Int}, wr x1 = x1 → wr x2 = x2 → wr x3 = x3 → wr x4 = x4 → f_Descent_stockOf_L47 G k7 x1 x2 x3 x4 = some r → J X true 6 0 0 M_Descent_stockOf (Ri r G) NC 0 0 47 [(0, rf X 30), (1, vi x1), (2, vi x2), (3, vi x3), (4, vi x4)] [] G := by
  intro x1 x2 x3 x4 hx1 hx2 hx3 hx4 h
  unfold f_Descent_stockOf_L47 at h
  refine j_iconst (v := 1) (D_Descent_stockOf 25 rfl) rfl ?_
  refine j_goto (tgt := 52) (D_Descent_stockOf 26 rfl) rfl ?_
  refine j_loc [0, 1, 2, 3, 4] rfl ?_
  exact s_Descent_stockOf_L52 hk7 (hx1) (hx2) (hx3) (hx4) (wr_lit rfl) h
def f_Descent_stockOf_L7 (G : GS) : Nat → Int → Int → Int → Int → Option (Int)
  | 0, _, _, _, _ => none
  | n + 1, x1, x2, x3, x4 =>
    if gi G 1 7 ≤ x4 then
      if bAnd x3 (gi G 30 3) = 0 then
        some x3
      else
        some (bAnd x3 (gi G 30 3))
    else
      gd (0 ≤ x4 ∧ x4 < 32) <|
      if gi G 3 x4.toNat = x1 then
        f_Descent_stockOf_L47 G (f_Descent_stockOf_L7 G n) x1 x2 x3 x4
      else
        gd (0 ≤ x4 ∧ x4 < 32) <|
        if gi G 4 x4.toNat = x1 then
          f_Descent_stockOf_L47 G (f_Descent_stockOf_L7 G n) x1 x2 x3 x4
        else
          f_Descent_stockOf_L52 G (f_Descent_stockOf_L7 G n) x1 x2 x3 x4 0
theorem s_Descent_stockOf_L7 {X : XT} {G : GS} {r : Int} : ∀ (n : Nat) {x1 : Int} {x2 : Int} {x3 : Int} {x4 : Int}, wr x1 = x1 → wr x2 = x2 → wr x3 = x3 → wr x4 = x4 → f_Descent_stockOf_L7 G n x1 x2 x3 x4 = some r → J X true 6 0 0 M_Descent_stockOf (Ri r G) NC 0 0 7 [(0, rf X 30), (1, vi x1), (2, vi x2), (3, vi x3), (4, vi x4)] [] G := by
  intro n
  induction n with
  | zero =>
    intro x1 x2 x3 x4 hx1 hx2 hx3 hx4 h
    exact none_some h
  | succ n ih =>
    intro x1 x2 x3 x4 hx1 hx2 hx3 hx4 h
    rw [f_Descent_stockOf_L7] at h
    refine j_iload (k := 4) (D_Descent_stockOf 6 rfl) rfl ?_
    refine j_aloadn (k := 0) (D_Descent_stockOf 7 rfl) rfl rfl ?_
    refine j_getR rfl fa_Descent_27 kd_30 lc_30 (by decide) rfl fx_30_0 (by decide) (D_Descent_stockOf 8 rfl) ?_
    refine j_getI rfl fa_Descent_31 kd_1 lc_1 (by decide) rfl (D_Descent_stockOf 9 rfl) ?_
    refine j_ic_ge (tgt := 105) (D_Descent_stockOf 10 rfl) rfl (hx4) (wr_gi _ _ _) (fun c1 => ?_) (fun c1 => ?_)
    · replace h := ite_t h c1
      refine j_iloadn (k := 3) (D_Descent_stockOf 55 rfl) rfl rfl ?_
      refine j_aloadn (k := 0) (D_Descent_stockOf 56 rfl) rfl rfl ?_
      refine j_getI rfl fa_Descent_41 kd_30 lc_30 (by decide) rfl (D_Descent_stockOf 57 rfl) ?_
      refine j_iand (D_Descent_stockOf 58 rfl) ?_
      refine j_if_eq (tgt := 123) (D_Descent_stockOf 59 rfl) rfl (wr_bAnd _ _) (fun c2 => ?_) (fun c2 => ?_)
      · replace h := ite_t h c2
        refine j_iloadn (k := 3) (D_Descent_stockOf 65 rfl) rfl rfl ?_
        exact j_iret (D_Descent_stockOf 66 rfl) rfl (hx3) rfl rfl (leafIo h (wr_n (hx3)))
      · replace h := ite_f h c2
        refine j_iloadn (k := 3) (D_Descent_stockOf 60 rfl) rfl rfl ?_
        refine j_aloadn (k := 0) (D_Descent_stockOf 61 rfl) rfl rfl ?_
        refine j_getI rfl fa_Descent_41 kd_30 lc_30 (by decide) rfl (D_Descent_stockOf 62 rfl) ?_
        refine j_iand (D_Descent_stockOf 63 rfl) ?_
        refine j_goto (tgt := 124) (D_Descent_stockOf 64 rfl) rfl ?_
        exact j_iret (D_Descent_stockOf 66 rfl) rfl (wr_bAnd _ _) rfl rfl (leafIo h (wr_n (wr_bAnd _ _)))
    · replace h := ite_f h c1
      refine j_aloadn (k := 0) (D_Descent_stockOf 11 rfl) rfl rfl ?_
      refine j_getR rfl fa_Descent_27 kd_30 lc_30 (by decide) rfl fx_30_0 (by decide) (D_Descent_stockOf 12 rfl) ?_
      refine j_getR rfl fa_Descent_62 kd_1 lc_1 (by decide) rfl fx_1_1 (by decide) (D_Descent_stockOf 13 rfl) ?_
      refine j_iload (k := 4) (D_Descent_stockOf 14 rfl) rfl ?_
      have g1 := gd_c h
      replace h := gd_s h
      refine j_iald (NI := 32) (D_Descent_stockOf 15 rfl) kd_3 lc_3 (hx4) rfl g1.1 g1.2 ?_
      refine j_iloadn (k := 1) (D_Descent_stockOf 16 rfl) rfl rfl ?_
      refine j_ic_eq (tgt := 47) (D_Descent_stockOf 17 rfl) rfl (wr_gi _ _ _) (hx1) (fun c3 => ?_) (fun c3 => ?_)
      · replace h := ite_t h c3
        refine j_loc [0, 1, 2, 3, 4] rfl ?_
        exact s_Descent_stockOf_L47 ih (hx1) (hx2) (hx3) (hx4) h
      · replace h := ite_f h c3
        refine j_aloadn (k := 0) (D_Descent_stockOf 18 rfl) rfl rfl ?_
        refine j_getR rfl fa_Descent_27 kd_30 lc_30 (by decide) rfl fx_30_0 (by decide) (D_Descent_stockOf 19 rfl) ?_
        refine j_getR rfl fa_Descent_65 kd_1 lc_1 (by decide) rfl fx_1_2 (by decide) (D_Descent_stockOf 20 rfl) ?_
        refine j_iload (k := 4) (D_Descent_stockOf 21 rfl) rfl ?_
        have g2 := gd_c h
        replace h := gd_s h
        refine j_iald (NI := 32) (D_Descent_stockOf 22 rfl) kd_4 lc_4 (hx4) rfl g2.1 g2.2 ?_
        refine j_iloadn (k := 1) (D_Descent_stockOf 23 rfl) rfl rfl ?_
        refine j_ic_ne (tgt := 51) (D_Descent_stockOf 24 rfl) rfl (wr_gi _ _ _) (hx1) (fun c4 => ?_) (fun c4 => ?_)
        · replace h := ite_f h c4
          refine j_iconst (v := 0) (D_Descent_stockOf 27 rfl) rfl ?_
          refine j_loc [0, 1, 2, 3, 4] rfl ?_
          exact s_Descent_stockOf_L52 ih (hx1) (hx2) (hx3) (hx4) (wr_lit rfl) h
        · replace h := ite_t h c4
          refine j_loc [0, 1, 2, 3, 4] rfl ?_
          exact s_Descent_stockOf_L47 ih (hx1) (hx2) (hx3) (hx4) h
def f_Descent_stockOf (G : GS) (a1 : Int) (a2 : Int) : Option (Int) :=
  f_Descent_stockOf_L7 G FU a1 a2 0 (wr (a1 + 1))
theorem c_Descent_stockOf {X : XT} {G : GS} {a1 : Int} {a2 : Int} {r : Int} (ha1 : wr a1 = a1) (ha2 : wr a2 = a2) (h : f_Descent_stockOf G a1 a2 = some r) : Call X true 6 0 0 M_Descent_stockOf [rf X 30, vi a1, vi a2] NC G (Ri r G) := by
  refine Call_of_J cw_Descent_stockOf (by decide +kernel) (Nat.le_of_ble_eq_true rfl) ?_
  unfold f_Descent_stockOf at h
  show J X true 6 0 0 M_Descent_stockOf (Ri r G) NC 0 0 0 [(0, rf X 30), (1, vi a1), (2, vi a2)] [] G
  refine j_iconst (v := 0) (D_Descent_stockOf 0 rfl) rfl ?_
  refine j_istoren (L' := [(3, vi 0), (0, rf X 30), (1, vi a1), (2, vi a2)]) (D_Descent_stockOf 1 rfl) rfl (wr_lit rfl) (by decide) rfl ?_
  refine j_iloadn (k := 2) (D_Descent_stockOf 2 rfl) rfl rfl ?_
  refine j_iconst (v := 1) (D_Descent_stockOf 3 rfl) rfl ?_
  refine j_iadd (D_Descent_stockOf 4 rfl) ?_
  refine j_istore (L' := [(4, vi (wr (a1 + 1))), (3, vi 0), (0, rf X 30), (1, vi a1), (2, vi a2)]) (D_Descent_stockOf 5 rfl) (rfl) (by decide) rfl ?_
  refine j_loc [2, 3, 4, 1, 0] rfl ?_
  exact s_Descent_stockOf_L7 FU (ha1) (ha2) (wr_lit rfl) (wr_wr _) h
abbrev M_Descent_oneTakesAll : MI := (⟨"InquestHall$Descent", "oneTakesAll", "(I)Z"⟩, prog_2_method_9_code, 2, (some .boolean))
theorem cw_Descent_oneTakesAll : Cond.code M_Descent_oneTakesAll.1 M_Descent_oneTakesAll.2.1 M_Descent_oneTakesAll.2.2.1 M_Descent_oneTakesAll.2.2.2 ∈ TS := mTS (List.mem_of_getElem? (i := 951) (by decide +kernel)) (by decide +kernel)
theorem fa_Descent_38 : FA "InquestHall$Descent" 38 7 2 false .int := ⟨_, _, _, _, ok_Descent, by decide, mTS (List.mem_of_getElem? (i := 428) (by decide +kernel)) (by decide +kernel), rfl, rfl⟩
def tb_Descent_oneTakesAll : List (Nat × Instr × Nat) := [(0, .aload_n 0, 1), (1, .getfield 38, 3), (4, .iconst 2, 1), (5, .if_icmp .eq 16, 3), (8, .iload_n 1, 1), (9, .aload_n 0, 1), (10, .getfield 41, 3), (13, .iand, 1), (14, .ifCond .eq 7, 3), (17, .iconst 1, 1), (18, .goto 4, 3), (21, .iconst 0, 1), (22, .ireturn, 1)]
theorem D_Descent_oneTakesAll (i : Nat) {pc len : Nat} {ins : Instr} (hi : tb_Descent_oneTakesAll[i]? = some (pc, ins, len)) : decode M_Descent_oneTakesAll.2.1 pc = .ok (ins, len) := dec_of (by decide +kernel) i hi
def f_Descent_oneTakesAll (G : GS) (a1 : Int) : Option (Int) :=
  if gi G 30 2 = 2 then
    some 0
  else
    if bAnd a1 (gi G 30 3) = 0 then
      some 0
    else
      some 1
theorem c_Descent_oneTakesAll {X : XT} {G : GS} {a1 : Int} {r : Int} (ha1 : wr a1 = a1) (h : f_Descent_oneTakesAll G a1 = some r) : Call X true 6 0 0 M_Descent_oneTakesAll [rf X 30, vi a1] NC G (Rz r G) := by
  refine Call_of_J cw_Descent_oneTakesAll (by decide +kernel) (Nat.le_of_ble_eq_true rfl) ?_
  unfold f_Descent_oneTakesAll at h
  show J X true 6 0 0 M_Descent_oneTakesAll (Rz r G) NC 0 0 0 [(0, rf X 30), (1, vi a1)] [] G
  refine j_aloadn (k := 0) (D_Descent_oneTakesAll 0 rfl) rfl rfl ?_
  refine j_getI rfl fa_Descent_38 kd_30 lc_30 (by decide) rfl (D_Descent_oneTakesAll 1 rfl) ?_
  refine j_iconst (v := 2) (D_Descent_oneTakesAll 2 rfl) rfl ?_
  refine j_ic_eq (tgt := 21) (D_Descent_oneTakesAll 3 rfl) rfl (wr_gi _ _ _) (wr_lit rfl) (fun c1 => ?_) (fun c1 => ?_)
  · replace h := ite_t h c1
    refine j_iconst (v := 0) (D_Descent_oneTakesAll 11 rfl) rfl ?_
    exact j_zret (D_Descent_oneTakesAll 12 rfl) rfl (wr_lit rfl) (nz_01 (by decide)) rfl rfl (leafZo h (wr_n (wr_lit rfl)) (by decide))
  · replace h := ite_f h c1
    refine j_iloadn (k := 1) (D_Descent_oneTakesAll 4 rfl) rfl rfl ?_
    refine j_aloadn (k := 0) (D_Descent_oneTakesAll 5 rfl) rfl rfl ?_
    refine j_getI rfl fa_Descent_41 kd_30 lc_30 (by decide) rfl (D_Descent_oneTakesAll 6 rfl) ?_
    refine j_iand (D_Descent_oneTakesAll 7 rfl) ?_
    refine j_if_eq (tgt := 21) (D_Descent_oneTakesAll 8 rfl) rfl (wr_bAnd _ _) (fun c2 => ?_) (fun c2 => ?_)
    · replace h := ite_t h c2
      refine j_iconst (v := 0) (D_Descent_oneTakesAll 11 rfl) rfl ?_
      exact j_zret (D_Descent_oneTakesAll 12 rfl) rfl (wr_lit rfl) (nz_01 (by decide)) rfl rfl (leafZo h (wr_n (wr_lit rfl)) (by decide))
    · replace h := ite_f h c2
      refine j_iconst (v := 1) (D_Descent_oneTakesAll 9 rfl) rfl ?_
      refine j_goto (tgt := 22) (D_Descent_oneTakesAll 10 rfl) rfl ?_
      exact j_zret (D_Descent_oneTakesAll 12 rfl) rfl (wr_lit rfl) (nz_01 (by decide)) rfl rfl (leafZo h (wr_n (wr_lit rfl)) (by decide))
abbrev M_People_isOlder : MI := (⟨"InquestHall$People", "isOlder", "(II)Z"⟩, prog_8_method_8_code, 3, (some .boolean))
theorem cw_People_isOlder : Cond.code M_People_isOlder.1 M_People_isOlder.2.1 M_People_isOlder.2.2.1 M_People_isOlder.2.2.2 ∈ TS := mTS (List.mem_of_getElem? (i := 959) (by decide +kernel)) (by decide +kernel)
def tb_People_isOlder : List (Nat × Instr × Nat) := [(0, .aload_n 0, 1), (1, .getfield 21, 3), (4, .iload_n 1, 1), (5, .iaload, 1), (6, .aload_n 0, 1), (7, .getfield 21, 3), (10, .iload_n 2, 1), (11, .iaload, 1), (12, .if_icmp .eq 24, 3), (15, .aload_n 0, 1), (16, .getfield 21, 3), (19, .iload_n 1, 1), (20, .iaload, 1), (21, .aload_n 0, 1), (22, .getfield 21, 3), (25, .iload_n 2, 1), (26, .iaload, 1), (27, .if_icmp .ge 7, 3), (30, .iconst 1, 1), (31, .goto 4, 3), (34, .iconst 0, 1), (35, .ireturn, 1), (36, .aload_n 0, 1), (37, .getfield 24, 3), (40, .iload_n 1, 1), (41, .iaload, 1), (42, .aload_n 0, 1), (43, .getfield 24, 3), (46, .iload_n 2, 1), (47, .iaload, 1), (48, .if_icmp .eq 26, 3), (51, .aload_n 0, 1), (52, .getfield 24, 3), (55, .iload_n 1, 1), (56, .iaload, 1), (57, .aload_n 0, 1), (58, .getfield 24, 3), (61, .iload_n 2, 1), (62, .iaload, 1), (63, .if_icmp .ge 7, 3), (66, .iconst 1, 1), (67, .goto 17, 3), (70, .iconst 0, 1), (71, .goto 13, 3), (74, .iload_n 1, 1), (75, .iload_n 2, 1), (76, .if_icmp .ge 7, 3), (79, .iconst 1, 1), (80, .goto 4, 3), (83, .iconst 0, 1), (84, .ireturn, 1)]
theorem D_People_isOlder (i : Nat) {pc len : Nat} {ins : Instr} (hi : tb_People_isOlder[i]? = some (pc, ins, len)) : decode M_People_isOlder.2.1 pc = .ok (ins, len) := dec_of (by decide +kernel) i hi
def f_People_isOlder (G : GS) (a1 : Int) (a2 : Int) : Option (Int) :=
  gd (0 ≤ a1 ∧ a1 < 32) <|
  gd (0 ≤ a2 ∧ a2 < 32) <|
  if gi G 5 a1.toNat = gi G 5 a2.toNat then
    gd (0 ≤ a1 ∧ a1 < 32) <|
    gd (0 ≤ a2 ∧ a2 < 32) <|
    if gi G 6 a1.toNat = gi G 6 a2.toNat then
      if a2 ≤ a1 then
        some 0
      else
        some 1
    else
      gd (0 ≤ a1 ∧ a1 < 32) <|
      gd (0 ≤ a2 ∧ a2 < 32) <|
      if gi G 6 a2.toNat ≤ gi G 6 a1.toNat then
        some 0
      else
        some 1
  else
    gd (0 ≤ a1 ∧ a1 < 32) <|
    gd (0 ≤ a2 ∧ a2 < 32) <|
    if gi G 5 a2.toNat ≤ gi G 5 a1.toNat then
      some 0
    else
      some 1
theorem c_People_isOlder {X : XT} {G : GS} {a1 : Int} {a2 : Int} {r : Int} (ha1 : wr a1 = a1) (ha2 : wr a2 = a2) (h : f_People_isOlder G a1 a2 = some r) : Call X true 6 0 0 M_People_isOlder [rf X 1, vi a1, vi a2] NC G (Rz r G) := by
  refine Call_of_J cw_People_isOlder (by decide +kernel) (Nat.le_of_ble_eq_true rfl) ?_
  unfold f_People_isOlder at h
  show J X true 6 0 0 M_People_isOlder (Rz r G) NC 0 0 0 [(0, rf X 1), (1, vi a1), (2, vi a2)] [] G
  refine j_aloadn (k := 0) (D_People_isOlder 0 rfl) rfl rfl ?_
  refine j_getR rfl fa_People_21 kd_1 lc_1 (by decide) rfl fx_1_3 (by decide) (D_People_isOlder 1 rfl) ?_
  refine j_iloadn (k := 1) (D_People_isOlder 2 rfl) rfl rfl ?_
  have g1 := gd_c h
  replace h := gd_s h
  refine j_iald (NI := 32) (D_People_isOlder 3 rfl) kd_5 lc_5 (ha1) rfl g1.1 g1.2 ?_
  refine j_aloadn (k := 0) (D_People_isOlder 4 rfl) rfl rfl ?_
  refine j_getR rfl fa_People_21 kd_1 lc_1 (by decide) rfl fx_1_3 (by decide) (D_People_isOlder 5 rfl) ?_
  refine j_iloadn (k := 2) (D_People_isOlder 6 rfl) rfl rfl ?_
  have g2 := gd_c h
  replace h := gd_s h
  refine j_iald (NI := 32) (D_People_isOlder 7 rfl) kd_5 lc_5 (ha2) rfl g2.1 g2.2 ?_
  refine j_ic_eq (tgt := 36) (D_People_isOlder 8 rfl) rfl (wr_gi _ _ _) (wr_gi _ _ _) (fun c1 => ?_) (fun c1 => ?_)
  · replace h := ite_t h c1
    refine j_aloadn (k := 0) (D_People_isOlder 22 rfl) rfl rfl ?_
    refine j_getR rfl fa_People_24 kd_1 lc_1 (by decide) rfl fx_1_4 (by decide) (D_People_isOlder 23 rfl) ?_
    refine j_iloadn (k := 1) (D_People_isOlder 24 rfl) rfl rfl ?_
    have g3 := gd_c h
    replace h := gd_s h
    refine j_iald (NI := 32) (D_People_isOlder 25 rfl) kd_6 lc_6 (ha1) rfl g3.1 g3.2 ?_
    refine j_aloadn (k := 0) (D_People_isOlder 26 rfl) rfl rfl ?_
    refine j_getR rfl fa_People_24 kd_1 lc_1 (by decide) rfl fx_1_4 (by decide) (D_People_isOlder 27 rfl) ?_
    refine j_iloadn (k := 2) (D_People_isOlder 28 rfl) rfl rfl ?_
    have g4 := gd_c h
    replace h := gd_s h
    refine j_iald (NI := 32) (D_People_isOlder 29 rfl) kd_6 lc_6 (ha2) rfl g4.1 g4.2 ?_
    refine j_ic_eq (tgt := 74) (D_People_isOlder 30 rfl) rfl (wr_gi _ _ _) (wr_gi _ _ _) (fun c2 => ?_) (fun c2 => ?_)
    · replace h := ite_t h c2
      refine j_iloadn (k := 1) (D_People_isOlder 44 rfl) rfl rfl ?_
      refine j_iloadn (k := 2) (D_People_isOlder 45 rfl) rfl rfl ?_
      refine j_ic_ge (tgt := 83) (D_People_isOlder 46 rfl) rfl (ha1) (ha2) (fun c3 => ?_) (fun c3 => ?_)
      · replace h := ite_t h c3
        refine j_iconst (v := 0) (D_People_isOlder 49 rfl) rfl ?_
        exact j_zret (D_People_isOlder 50 rfl) rfl (wr_lit rfl) (nz_01 (by decide)) rfl rfl (leafZo h (wr_n (wr_lit rfl)) (by decide))
      · replace h := ite_f h c3
        refine j_iconst (v := 1) (D_People_isOlder 47 rfl) rfl ?_
        refine j_goto (tgt := 84) (D_People_isOlder 48 rfl) rfl ?_
        exact j_zret (D_People_isOlder 50 rfl) rfl (wr_lit rfl) (nz_01 (by decide)) rfl rfl (leafZo h (wr_n (wr_lit rfl)) (by decide))
    · replace h := ite_f h c2
      refine j_aloadn (k := 0) (D_People_isOlder 31 rfl) rfl rfl ?_
      refine j_getR rfl fa_People_24 kd_1 lc_1 (by decide) rfl fx_1_4 (by decide) (D_People_isOlder 32 rfl) ?_
      refine j_iloadn (k := 1) (D_People_isOlder 33 rfl) rfl rfl ?_
      have g5 := gd_c h
      replace h := gd_s h
      refine j_iald (NI := 32) (D_People_isOlder 34 rfl) kd_6 lc_6 (ha1) rfl g5.1 g5.2 ?_
      refine j_aloadn (k := 0) (D_People_isOlder 35 rfl) rfl rfl ?_
      refine j_getR rfl fa_People_24 kd_1 lc_1 (by decide) rfl fx_1_4 (by decide) (D_People_isOlder 36 rfl) ?_
      refine j_iloadn (k := 2) (D_People_isOlder 37 rfl) rfl rfl ?_
      have g6 := gd_c h
      replace h := gd_s h
      refine j_iald (NI := 32) (D_People_isOlder 38 rfl) kd_6 lc_6 (ha2) rfl g6.1 g6.2 ?_
      refine j_ic_ge (tgt := 70) (D_People_isOlder 39 rfl) rfl (wr_gi _ _ _) (wr_gi _ _ _) (fun c4 => ?_) (fun c4 => ?_)
      · replace h := ite_t h c4
        refine j_iconst (v := 0) (D_People_isOlder 42 rfl) rfl ?_
        refine j_goto (tgt := 84) (D_People_isOlder 43 rfl) rfl ?_
        exact j_zret (D_People_isOlder 50 rfl) rfl (wr_lit rfl) (nz_01 (by decide)) rfl rfl (leafZo h (wr_n (wr_lit rfl)) (by decide))
      · replace h := ite_f h c4
        refine j_iconst (v := 1) (D_People_isOlder 40 rfl) rfl ?_
        refine j_goto (tgt := 84) (D_People_isOlder 41 rfl) rfl ?_
        exact j_zret (D_People_isOlder 50 rfl) rfl (wr_lit rfl) (nz_01 (by decide)) rfl rfl (leafZo h (wr_n (wr_lit rfl)) (by decide))
  · replace h := ite_f h c1
    refine j_aloadn (k := 0) (D_People_isOlder 9 rfl) rfl rfl ?_
    refine j_getR rfl fa_People_21 kd_1 lc_1 (by decide) rfl fx_1_3 (by decide) (D_People_isOlder 10 rfl) ?_
    refine j_iloadn (k := 1) (D_People_isOlder 11 rfl) rfl rfl ?_
    have g7 := gd_c h
    replace h := gd_s h
    refine j_iald (NI := 32) (D_People_isOlder 12 rfl) kd_5 lc_5 (ha1) rfl g7.1 g7.2 ?_
    refine j_aloadn (k := 0) (D_People_isOlder 13 rfl) rfl rfl ?_
    refine j_getR rfl fa_People_21 kd_1 lc_1 (by decide) rfl fx_1_3 (by decide) (D_People_isOlder 14 rfl) ?_
    refine j_iloadn (k := 2) (D_People_isOlder 15 rfl) rfl rfl ?_
    have g8 := gd_c h
    replace h := gd_s h
    refine j_iald (NI := 32) (D_People_isOlder 16 rfl) kd_5 lc_5 (ha2) rfl g8.1 g8.2 ?_
    refine j_ic_ge (tgt := 34) (D_People_isOlder 17 rfl) rfl (wr_gi _ _ _) (wr_gi _ _ _) (fun c5 => ?_) (fun c5 => ?_)
    · replace h := ite_t h c5
      refine j_iconst (v := 0) (D_People_isOlder 20 rfl) rfl ?_
      exact j_zret (D_People_isOlder 21 rfl) rfl (wr_lit rfl) (nz_01 (by decide)) rfl rfl (leafZo h (wr_n (wr_lit rfl)) (by decide))
    · replace h := ite_f h c5
      refine j_iconst (v := 1) (D_People_isOlder 18 rfl) rfl ?_
      refine j_goto (tgt := 35) (D_People_isOlder 19 rfl) rfl ?_
      exact j_zret (D_People_isOlder 21 rfl) rfl (wr_lit rfl) (nz_01 (by decide)) rfl rfl (leafZo h (wr_n (wr_lit rfl)) (by decide))
abbrev M_Descent_chosen : MI := (⟨"InquestHall$Descent", "chosen", "(I)I"⟩, prog_2_method_11_code, 4, (some .int))
theorem cw_Descent_chosen : Cond.code M_Descent_chosen.1 M_Descent_chosen.2.1 M_Descent_chosen.2.2.1 M_Descent_chosen.2.2.2 ∈ TS := mTS (List.mem_of_getElem? (i := 955) (by decide +kernel)) (by decide +kernel)
theorem lk_Descent_81 : Cond.methodLink "InquestHall$Descent" 81 Lib.Math.max.name ∈ TS := mTS (List.mem_of_getElem? (i := 960) (by decide +kernel)) (by decide +kernel)
theorem lk_Descent_78 : Cond.methodLink "InquestHall$Descent" 78 M_People_isOlder.1 ∈ TS := mTS (List.mem_of_getElem? (i := 956) (by decide +kernel)) (by decide +kernel)
theorem mok_People_isOlder : MOK M_People_isOlder 2 := ⟨mTS (List.mem_of_getElem? (i := 957) (by decide +kernel)) (by decide +kernel), mTS (List.mem_of_getElem? (i := 958) (by decide +kernel)) (by decide +kernel), mTS (List.mem_of_getElem? (i := 123) (by decide +kernel)) (by decide +kernel), cw_People_isOlder, ⟨by decide, by decide, by decide +kernel⟩, by decide +kernel, by decide⟩
def tb_Descent_chosen : List (Nat × Instr × Nat) := [(0, .iconst (-1), 1), (1, .istore_n 2, 1), (2, .iconst 0, 1), (3, .istore_n 3, 1), (4, .iload_n 3, 1), (5, .aload_n 0, 1), (6, .getfield 27, 3), (9, .getfield 31, 3), (12, .if_icmp .ge 48, 3), (15, .iload_n 1, 1), (16, .iconst 1, 1), (17, .iload_n 3, 1), (18, .ishl, 1), (19, .iand, 1), (20, .ifCond .eq 34, 3), (23, .iload_n 2, 1), (24, .iconst (-1), 1), (25, .if_icmp .eq 27, 3), (28, .aload_n 0, 1), (29, .getfield 27, 3), (32, .iload_n 3, 1), (33, .iload_n 2, 1), (34, .invokevirtual 78, 3), (37, .aload_n 0, 1), (38, .getfield 38, 3), (41, .ifCond .ne 7, 3), (44, .iconst 1, 1), (45, .goto 4, 3), (48, .iconst 0, 1), (49, .if_icmp .ne 5, 3), (52, .iload_n 3, 1), (53, .istore_n 2, 1), (54, .iinc 3 1, 3), (57, .goto (-53), 3), (60, .iconst 0, 1), (61, .iload_n 2, 1), (62, .invokestatic 81, 3), (65, .ireturn, 1)]
theorem D_Descent_chosen (i : Nat) {pc len : Nat} {ins : Instr} (hi : tb_Descent_chosen[i]? = some (pc, ins, len)) : decode M_Descent_chosen.2.1 pc = .ok (ins, len) := dec_of (by decide +kernel) i hi
def f_Descent_chosen_L54 (G : GS) (k4 : Int → Int → Int → Option (Int)) (x1 : Int) (x2 : Int) (x3 : Int) : Option (Int) :=
  k4 x1 x2 (wr (x3 + 1))
theorem s_Descent_chosen_L54 {X : XT} {G : GS} {r : Int} {k4 : Int → Int → Int → Option (Int)} (hk4 : ∀ {x1 : Int} {x2 : Int} {x3 : Int} , wr x1 = x1 → wr x2 = x2 → wr x3 = x3 → k4 x1 x2 x3 = some r → J X true 9 0 0 M_Descent_chosen (Ri r G) NC 0 0 4 [(0, rf X 30), (1, vi x1), (2, vi x2), (3, vi x3)] [] G) : ∀ {x1 : Int} {x2 : Int} {x3 : Int}, wr x1 = x1 → wr x2 = x2 → wr x3 = x3 → f_Descent_chosen_L54 G k4 x1 x2 x3 = some r → J X true 9 0 0 M_Descent_chosen (Ri r G) NC 0 0 54 [(0, rf X 30), (1, vi x1), (2, vi x2), (3, vi x3)] [] G := by
  intro x1 x2 x3 hx1 hx2 hx3 h
  unfold f_Descent_chosen_L54 at h
  refine j_iinc (k := 3) (L' := [(3, vi (wr (x3 + 1))), (0, rf X 30), (1, vi x1), (2, vi x2)]) (D_Descent_chosen 32 rfl) rfl rfl (by decide) rfl ?_
  refine j_goto (tgt := 4) (D_Descent_chosen 33 rfl) rfl ?_
  refine j_loc [1, 2, 3, 0] rfl ?_
  exact hk4 (hx1) (hx2) (wr_wr _) h
def f_Descent_chosen_L52 (G : GS) (k4 : Int → Int → Int → Option (Int)) (x1 : Int) (x3 : Int) : Option (Int) :=
  f_Descent_chosen_L54 G k4 x1 x3 x3
theorem s_Descent_chosen_L52 {X : XT} {G : GS} {r : Int} {k4 : Int → Int → Int → Option (Int)} (hk4 : ∀ {x1 : Int} {x2 : Int} {x3 : Int} , wr x1 = x1 → wr x2 = x2 → wr x3 = x3 → k4 x1 x2 x3 = some r → J X true 9 0 0 M_Descent_chosen (Ri r G) NC 0 0 4 [(0, rf X 30), (1, vi x1), (2, vi x2), (3, vi x3)] [] G) : ∀ {x1 : Int} {x3 : Int}, wr x1 = x1 → wr x3 = x3 → f_Descent_chosen_L52 G k4 x1 x3 = some r → J X true 9 0 0 M_Descent_chosen (Ri r G) NC 0 0 52 [(0, rf X 30), (1, vi x1), (3, vi x3)] [] G := by
  intro x1 x3 hx1 hx3 h
  unfold f_Descent_chosen_L52 at h
  refine j_iloadn (k := 2) (D_Descent_chosen 30 rfl) rfl rfl ?_
  refine j_istoren (L' := [(2, vi x3), (0, rf X 30), (1, vi x1), (3, vi x3)]) (D_Descent_chosen 31 rfl) rfl (hx3) (by decide) rfl ?_
  refine j_loc [1, 2, 0, 3] rfl ?_
  exact s_Descent_chosen_L54 hk4 (hx1) (hx3) (hx3) h
def f_Descent_chosen_L49 (G : GS) (k4 : Int → Int → Int → Option (Int)) (x1 : Int) (x2 : Int) (x3 : Int) (s0 : Int) (s1 : Int) : Option (Int) :=
  if s1 = s0 then
    f_Descent_chosen_L52 G k4 x1 x3
  else
    f_Descent_chosen_L54 G k4 x1 x2 x3
theorem s_Descent_chosen_L49 {X : XT} {G : GS} {r : Int} {k4 : Int → Int → Int → Option (Int)} (hk4 : ∀ {x1 : Int} {x2 : Int} {x3 : Int} , wr x1 = x1 → wr x2 = x2 → wr x3 = x3 → k4 x1 x2 x3 = some r → J X true 9 0 0 M_Descent_chosen (Ri r G) NC 0 0 4 [(0, rf X 30), (1, vi x1), (2, vi x2), (3, vi x3)] [] G) : ∀ {x1 : Int} {x2 : Int} {x3 : Int} {s0 : Int} {s1 : Int}, wr x1 = x1 → wr x2 = x2 → wr x3 = x3 → wr s0 = s0 → wr s1 = s1 → f_Descent_chosen_L49 G k4 x1 x2 x3 s0 s1 = some r → J X true 9 0 0 M_Descent_chosen (Ri r G) NC 0 0 49 [(0, rf X 30), (1, vi x1), (2, vi x2), (3, vi x3)] [vi s0, vi s1] G := by
  intro x1 x2 x3 s0 s1 hx1 hx2 hx3 hs0 hs1 h
  unfold f_Descent_chosen_L49 at h
  refine j_ic_ne (tgt := 54) (D_Descent_chosen 29 rfl) rfl (hs1) (hs0) (fun c1 => ?_) (fun c1 => ?_)
  · replace h := ite_f h c1
    refine j_loc [0, 1, 2, 3] rfl ?_
    exact s_Descent_chosen_L54 hk4 (hx1) (hx2) (hx3) h
  · replace h := ite_t h c1
    refine j_loc [0, 1, 3] rfl ?_
    exact s_Descent_chosen_L52 hk4 (hx1) (hx3) h
def f_Descent_chosen_L4 (G : GS) : Nat → Int → Int → Int → Option (Int)
  | 0, _, _, _ => none
  | n + 1, x1, x2, x3 =>
    if gi G 1 7 ≤ x3 then
      some (max 0 x2)
    else
      if bAnd x1 (bShl 1 x3) = 0 then
        f_Descent_chosen_L54 G (f_Descent_chosen_L4 G n) x1 x2 x3
      else
        if x2 = (-1) then
          f_Descent_chosen_L52 G (f_Descent_chosen_L4 G n) x1 x3
        else
          (f_People_isOlder G x3 x2).bind fun q1 =>
          if gi G 30 2 = 0 then
            f_Descent_chosen_L49 G (f_Descent_chosen_L4 G n) x1 x2 x3 1 q1
          else
            f_Descent_chosen_L49 G (f_Descent_chosen_L4 G n) x1 x2 x3 0 q1
theorem s_Descent_chosen_L4 {X : XT} {G : GS} {r : Int} : ∀ (n : Nat) {x1 : Int} {x2 : Int} {x3 : Int}, wr x1 = x1 → wr x2 = x2 → wr x3 = x3 → f_Descent_chosen_L4 G n x1 x2 x3 = some r → J X true 9 0 0 M_Descent_chosen (Ri r G) NC 0 0 4 [(0, rf X 30), (1, vi x1), (2, vi x2), (3, vi x3)] [] G := by
  intro n
  induction n with
  | zero =>
    intro x1 x2 x3 hx1 hx2 hx3 h
    exact none_some h
  | succ n ih =>
    intro x1 x2 x3 hx1 hx2 hx3 h
    rw [f_Descent_chosen_L4] at h
    refine j_iloadn (k := 3) (D_Descent_chosen 4 rfl) rfl rfl ?_
    refine j_aloadn (k := 0) (D_Descent_chosen 5 rfl) rfl rfl ?_
    refine j_getR rfl fa_Descent_27 kd_30 lc_30 (by decide) rfl fx_30_0 (by decide) (D_Descent_chosen 6 rfl) ?_
    refine j_getI rfl fa_Descent_31 kd_1 lc_1 (by decide) rfl (D_Descent_chosen 7 rfl) ?_
    refine j_ic_ge (tgt := 60) (D_Descent_chosen 8 rfl) rfl (hx3) (wr_gi _ _ _) (fun c1 => ?_) (fun c1 => ?_)
    · replace h := ite_t h c1
      refine j_iconst (v := 0) (D_Descent_chosen 34 rfl) rfl ?_
      refine j_iloadn (k := 2) (D_Descent_chosen 35 rfl) rfl rfl ?_
      refine j_mmax (wr_lit rfl) (hx2) rfl lk_Descent_81 (by decide) (Nat.le_of_ble_eq_true rfl) (D_Descent_chosen 36 rfl) ?_
      exact j_iret (D_Descent_chosen 37 rfl) rfl (wr_max (wr_n (wr_lit rfl)) (wr_n (hx2))) rfl rfl (leafIo h (wr_n (wr_max (wr_n (wr_lit rfl)) (wr_n (hx2)))))
    · replace h := ite_f h c1
      refine j_iloadn (k := 1) (D_Descent_chosen 9 rfl) rfl rfl ?_
      refine j_iconst (v := 1) (D_Descent_chosen 10 rfl) rfl ?_
      refine j_iloadn (k := 3) (D_Descent_chosen 11 rfl) rfl rfl ?_
      refine j_ishl (D_Descent_chosen 12 rfl) ?_
      refine j_iand (D_Descent_chosen 13 rfl) ?_
      refine j_if_eq (tgt := 54) (D_Descent_chosen 14 rfl) rfl (wr_bAnd _ _) (fun c2 => ?_) (fun c2 => ?_)
      · replace h := ite_t h c2
        refine j_loc [0, 1, 2, 3] rfl ?_
        exact s_Descent_chosen_L54 ih (hx1) (hx2) (hx3) h
      · replace h := ite_f h c2
        refine j_iloadn (k := 2) (D_Descent_chosen 15 rfl) rfl rfl ?_
        refine j_iconst (v := (-1)) (D_Descent_chosen 16 rfl) rfl ?_
        refine j_ic_eq (tgt := 52) (D_Descent_chosen 17 rfl) rfl (hx2) (wr_lit rfl) (fun c3 => ?_) (fun c3 => ?_)
        · replace h := ite_t h c3
          refine j_loc [0, 1, 3] rfl ?_
          exact s_Descent_chosen_L52 ih (hx1) (hx3) h
        · replace h := ite_f h c3
          refine j_aloadn (k := 0) (D_Descent_chosen 18 rfl) rfl rfl ?_
          refine j_getR rfl fa_Descent_27 kd_30 lc_30 (by decide) rfl fx_30_0 (by decide) (D_Descent_chosen 19 rfl) ?_
          refine j_iloadn (k := 3) (D_Descent_chosen 20 rfl) rfl rfl ?_
          refine j_iloadn (k := 2) (D_Descent_chosen 21 rfl) rfl rfl ?_
          obtain ⟨q1, e1, h⟩ := Option.bind_eq_some_iff.mp h
          refine j_cVz (c_People_isOlder (hx3) (hx2) e1) rfl lk_Descent_78 mok_People_isOlder kd_1 lc_1 rfl (by decide) rfl rfl (Nat.le_of_ble_eq_true rfl) (D_Descent_chosen 22 rfl) (fun w1 bw1 => ?_)
          refine j_aloadn (k := 0) (D_Descent_chosen 23 rfl) rfl rfl ?_
          refine j_getI rfl fa_Descent_38 kd_30 lc_30 (by decide) rfl (D_Descent_chosen 24 rfl) ?_
          refine j_if_ne (tgt := 48) (D_Descent_chosen 25 rfl) rfl (wr_gi _ _ _) (fun c4 => ?_) (fun c4 => ?_)
          · replace h := ite_f h c4
            refine j_iconst (v := 0) (D_Descent_chosen 28 rfl) rfl ?_
            refine j_loc [0, 1, 2, 3] rfl ?_
            exact s_Descent_chosen_L49 ih (hx1) (hx2) (hx3) (wr_lit rfl) (w1) h
          · replace h := ite_t h c4
            refine j_iconst (v := 1) (D_Descent_chosen 26 rfl) rfl ?_
            refine j_goto (tgt := 49) (D_Descent_chosen 27 rfl) rfl ?_
            refine j_loc [0, 1, 2, 3] rfl ?_
            exact s_Descent_chosen_L49 ih (hx1) (hx2) (hx3) (wr_lit rfl) (w1) h
def f_Descent_chosen (G : GS) (a1 : Int) : Option (Int) :=
  f_Descent_chosen_L4 G FU a1 (-1) 0
theorem c_Descent_chosen {X : XT} {G : GS} {a1 : Int} {r : Int} (ha1 : wr a1 = a1) (h : f_Descent_chosen G a1 = some r) : Call X true 9 0 0 M_Descent_chosen [rf X 30, vi a1] NC G (Ri r G) := by
  refine Call_of_J cw_Descent_chosen (by decide +kernel) (Nat.le_of_ble_eq_true rfl) ?_
  unfold f_Descent_chosen at h
  show J X true 9 0 0 M_Descent_chosen (Ri r G) NC 0 0 0 [(0, rf X 30), (1, vi a1)] [] G
  refine j_iconst (v := (-1)) (D_Descent_chosen 0 rfl) rfl ?_
  refine j_istoren (L' := [(2, vi (-1)), (0, rf X 30), (1, vi a1)]) (D_Descent_chosen 1 rfl) rfl (wr_lit rfl) (by decide) rfl ?_
  refine j_iconst (v := 0) (D_Descent_chosen 2 rfl) rfl ?_
  refine j_istoren (L' := [(3, vi 0), (2, vi (-1)), (0, rf X 30), (1, vi a1)]) (D_Descent_chosen 3 rfl) rfl (wr_lit rfl) (by decide) rfl ?_
  refine j_loc [2, 3, 1, 0] rfl ?_
  exact s_Descent_chosen_L4 FU (ha1) (wr_lit rfl) (wr_lit rfl) h
abbrev M_Descent_lineThrough : MI := (⟨"InquestHall$Descent", "lineThrough", "(I)I"⟩, prog_2_method_10_code, 4, (some .int))
theorem cw_Descent_lineThrough : Cond.code M_Descent_lineThrough.1 M_Descent_lineThrough.2.1 M_Descent_lineThrough.2.2.1 M_Descent_lineThrough.2.2.2 ∈ TS := mTS (List.mem_of_getElem? (i := 947) (by decide +kernel)) (by decide +kernel)
theorem lk_Descent_71 : Cond.methodLink "InquestHall$Descent" 71 M_Descent_oneTakesAll.1 ∈ TS := mTS (List.mem_of_getElem? (i := 948) (by decide +kernel)) (by decide +kernel)
theorem mok_Descent_oneTakesAll : MOK M_Descent_oneTakesAll 1 := ⟨mTS (List.mem_of_getElem? (i := 950) (by decide +kernel)) (by decide +kernel), mTS (List.mem_of_getElem? (i := 27) (by decide +kernel)) (by decide +kernel), mTS (List.mem_of_getElem? (i := 134) (by decide +kernel)) (by decide +kernel), cw_Descent_oneTakesAll, ⟨by decide, by decide, by decide +kernel⟩, by decide +kernel, by decide⟩
theorem lk_Descent_75 : Cond.methodLink "InquestHall$Descent" 75 M_Descent_chosen.1 ∈ TS := mTS (List.mem_of_getElem? (i := 952) (by decide +kernel)) (by decide +kernel)
theorem mok_Descent_chosen : MOK M_Descent_chosen 1 := ⟨mTS (List.mem_of_getElem? (i := 954) (by decide +kernel)) (by decide +kernel), mTS (List.mem_of_getElem? (i := 28) (by decide +kernel)) (by decide +kernel), mTS (List.mem_of_getElem? (i := 134) (by decide +kernel)) (by decide +kernel), cw_Descent_chosen, ⟨by decide, by decide, by decide +kernel⟩, by decide +kernel, by decide⟩
def tb_Descent_lineThrough : List (Nat × Instr × Nat) := [(0, .aload_n 0, 1), (1, .iload_n 1, 1), (2, .invokevirtual 71, 3), (5, .ifCond .eq 14, 3), (8, .aload_n 0, 1), (9, .getfield 11, 3), (12, .aload_n 0, 1), (13, .iload_n 1, 1), (14, .invokevirtual 75, 3), (17, .iaload, 1), (18, .ireturn, 1), (19, .iconst 0, 1), (20, .istore_n 2, 1), (21, .iconst 0, 1), (22, .istore_n 3, 1), (23, .iload_n 3, 1), (24, .aload_n 0, 1), (25, .getfield 27, 3), (28, .getfield 31, 3), (31, .if_icmp .ge 30, 3), (34, .iload_n 2, 1), (35, .iload_n 1, 1), (36, .iconst 1, 1), (37, .iload_n 3, 1), (38, .ishl, 1), (39, .iand, 1), (40, .ifCond .eq 12, 3), (43, .aload_n 0, 1), (44, .getfield 11, 3), (47, .iload_n 3, 1), (48, .iaload, 1), (49, .goto 4, 3), (52, .iconst 0, 1), (53, .ior, 1), (54, .istore_n 2, 1), (55, .iinc 3 1, 3), (58, .goto (-35), 3), (61, .iload_n 2, 1), (62, .ireturn, 1)]
theorem D_Descent_lineThrough (i : Nat) {pc len : Nat} {ins : Instr} (hi : tb_Descent_lineThrough[i]? = some (pc, ins, len)) : decode M_Descent_lineThrough.2.1 pc = .ok (ins, len) := dec_of (by decide +kernel) i hi
def f_Descent_lineThrough_L53 (G : GS) (k23 : Int → Int → Int → Option (Int)) (x1 : Int) (x3 : Int) (s0 : Int) (s1 : Int) : Option (Int) :=
  k23 x1 (bOr s1 s0) (wr (x3 + 1))
theorem s_Descent_lineThrough_L53 {X : XT} {G : GS} {r : Int} {k23 : Int → Int → Int → Option (Int)} (hk23 : ∀ {x1 : Int} {x2 : Int} {x3 : Int} , wr x1 = x1 → wr x2 = x2 → wr x3 = x3 → k23 x1 x2 x3 = some r → J X true 10 0 0 M_Descent_lineThrough (Ri r G) NC 0 0 23 [(0, rf X 30), (1, vi x1), (2, vi x2), (3, vi x3)] [] G) : ∀ {x1 : Int} {x3 : Int} {s0 : Int} {s1 : Int}, wr x1 = x1 → wr x3 = x3 → wr s0 = s0 → wr s1 = s1 → f_Descent_lineThrough_L53 G k23 x1 x3 s0 s1 = some r → J X true 10 0 0 M_Descent_lineThrough (Ri r G) NC 0 0 53 [(0, rf X 30), (1, vi x1), (3, vi x3)] [vi s0, vi s1] G := by
  intro x1 x3 s0 s1 hx1 hx3 hs0 hs1 h
  unfold f_Descent_lineThrough_L53 at h
  refine j_ior (D_Descent_lineThrough 33 rfl) ?_
  refine j_istoren (L' := [(2, vi (bOr s1 s0)), (0, rf X 30), (1, vi x1), (3, vi x3)]) (D_Descent_lineThrough 34 rfl) rfl (wr_bOr _ _) (by decide) rfl ?_
  refine j_iinc (k := 3) (L' := [(3, vi (wr (x3 + 1))), (2, vi (bOr s1 s0)), (0, rf X 30), (1, vi x1)]) (D_Descent_lineThrough 35 rfl) rfl rfl (by decide) rfl ?_
  refine j_goto (tgt := 23) (D_Descent_lineThrough 36 rfl) rfl ?_
  refine j_loc [2, 3, 1, 0] rfl ?_
  exact hk23 (hx1) (wr_bOr _ _) (wr_wr _) h
def f_Descent_lineThrough_L23 (G : GS) : Nat → Int → Int → Int → Option (Int)
  | 0, _, _, _ => none
  | n + 1, x1, x2, x3 =>
    if gi G 1 7 ≤ x3 then
      some x2
    else
      if bAnd x1 (bShl 1 x3) = 0 then
        f_Descent_lineThrough_L53 G (f_Descent_lineThrough_L23 G n) x1 x3 0 x2
      else
        gd (0 ≤ x3 ∧ x3 < 33) <|
        f_Descent_lineThrough_L53 G (f_Descent_lineThrough_L23 G n) x1 x3 (gi G 31 x3.toNat) x2
theorem s_Descent_lineThrough_L23 {X : XT} {G : GS} {r : Int} : ∀ (n : Nat) {x1 : Int} {x2 : Int} {x3 : Int}, wr x1 = x1 → wr x2 = x2 → wr x3 = x3 → f_Descent_lineThrough_L23 G n x1 x2 x3 = some r → J X true 10 0 0 M_Descent_lineThrough (Ri r G) NC 0 0 23 [(0, rf X 30), (1, vi x1), (2, vi x2), (3, vi x3)] [] G := by
  intro n
  induction n with
  | zero =>
    intro x1 x2 x3 hx1 hx2 hx3 h
    exact none_some h
  | succ n ih =>
    intro x1 x2 x3 hx1 hx2 hx3 h
    rw [f_Descent_lineThrough_L23] at h
    refine j_iloadn (k := 3) (D_Descent_lineThrough 15 rfl) rfl rfl ?_
    refine j_aloadn (k := 0) (D_Descent_lineThrough 16 rfl) rfl rfl ?_
    refine j_getR rfl fa_Descent_27 kd_30 lc_30 (by decide) rfl fx_30_0 (by decide) (D_Descent_lineThrough 17 rfl) ?_
    refine j_getI rfl fa_Descent_31 kd_1 lc_1 (by decide) rfl (D_Descent_lineThrough 18 rfl) ?_
    refine j_ic_ge (tgt := 61) (D_Descent_lineThrough 19 rfl) rfl (hx3) (wr_gi _ _ _) (fun c1 => ?_) (fun c1 => ?_)
    · replace h := ite_t h c1
      refine j_iloadn (k := 2) (D_Descent_lineThrough 37 rfl) rfl rfl ?_
      exact j_iret (D_Descent_lineThrough 38 rfl) rfl (hx2) rfl rfl (leafIo h (wr_n (hx2)))
    · replace h := ite_f h c1
      refine j_iloadn (k := 2) (D_Descent_lineThrough 20 rfl) rfl rfl ?_
      refine j_iloadn (k := 1) (D_Descent_lineThrough 21 rfl) rfl rfl ?_
      refine j_iconst (v := 1) (D_Descent_lineThrough 22 rfl) rfl ?_
      refine j_iloadn (k := 3) (D_Descent_lineThrough 23 rfl) rfl rfl ?_
      refine j_ishl (D_Descent_lineThrough 24 rfl) ?_
      refine j_iand (D_Descent_lineThrough 25 rfl) ?_
      refine j_if_eq (tgt := 52) (D_Descent_lineThrough 26 rfl) rfl (wr_bAnd _ _) (fun c2 => ?_) (fun c2 => ?_)
      · replace h := ite_t h c2
        refine j_iconst (v := 0) (D_Descent_lineThrough 32 rfl) rfl ?_
        refine j_loc [0, 1, 3] rfl ?_
        exact s_Descent_lineThrough_L53 ih (hx1) (hx3) (wr_lit rfl) (hx2) h
      · replace h := ite_f h c2
        refine j_aloadn (k := 0) (D_Descent_lineThrough 27 rfl) rfl rfl ?_
        refine j_getR rfl fa_Descent_11 kd_30 lc_30 (by decide) rfl fx_30_4 (by decide) (D_Descent_lineThrough 28 rfl) ?_
        refine j_iloadn (k := 3) (D_Descent_lineThrough 29 rfl) rfl rfl ?_
        have g1 := gd_c h
        replace h := gd_s h
        refine j_iald (NI := 33) (D_Descent_lineThrough 30 rfl) kd_31 lc_31 (hx3) rfl g1.1 g1.2 ?_
        refine j_goto (tgt := 53) (D_Descent_lineThrough 31 rfl) rfl ?_
        refine j_loc [0, 1, 3] rfl ?_
        exact s_Descent_lineThrough_L53 ih (hx1) (hx3) (wr_gi _ _ _) (hx2) h
def f_Descent_lineThrough (G : GS) (a1 : Int) : Option (Int) :=
  (f_Descent_oneTakesAll G a1).bind fun q1 =>
  if q1 = 0 then
    f_Descent_lineThrough_L23 G FU a1 0 0
  else
    (f_Descent_chosen G a1).bind fun q2 =>
    gd (0 ≤ q2 ∧ q2 < 33) <|
    some (gi G 31 q2.toNat)
theorem c_Descent_lineThrough {X : XT} {G : GS} {a1 : Int} {r : Int} (ha1 : wr a1 = a1) (h : f_Descent_lineThrough G a1 = some r) : Call X true 10 0 0 M_Descent_lineThrough [rf X 30, vi a1] NC G (Ri r G) := by
  refine Call_of_J cw_Descent_lineThrough (by decide +kernel) (Nat.le_of_ble_eq_true rfl) ?_
  unfold f_Descent_lineThrough at h
  show J X true 10 0 0 M_Descent_lineThrough (Ri r G) NC 0 0 0 [(0, rf X 30), (1, vi a1)] [] G
  refine j_aloadn (k := 0) (D_Descent_lineThrough 0 rfl) rfl rfl ?_
  refine j_iloadn (k := 1) (D_Descent_lineThrough 1 rfl) rfl rfl ?_
  obtain ⟨q1, e1, h⟩ := Option.bind_eq_some_iff.mp h
  refine j_cVz (c_Descent_oneTakesAll (ha1) e1) rfl lk_Descent_71 mok_Descent_oneTakesAll kd_30 lc_30 rfl (by decide) rfl rfl (Nat.le_of_ble_eq_true rfl) (D_Descent_lineThrough 2 rfl) (fun w1 bw1 => ?_)
  refine j_if_eq (tgt := 19) (D_Descent_lineThrough 3 rfl) rfl (w1) (fun c1 => ?_) (fun c1 => ?_)
  · replace h := ite_t h c1
    refine j_iconst (v := 0) (D_Descent_lineThrough 11 rfl) rfl ?_
    refine j_istoren (L' := [(2, vi 0), (0, rf X 30), (1, vi a1)]) (D_Descent_lineThrough 12 rfl) rfl (wr_lit rfl) (by decide) rfl ?_
    refine j_iconst (v := 0) (D_Descent_lineThrough 13 rfl) rfl ?_
    refine j_istoren (L' := [(3, vi 0), (2, vi 0), (0, rf X 30), (1, vi a1)]) (D_Descent_lineThrough 14 rfl) rfl (wr_lit rfl) (by decide) rfl ?_
    refine j_loc [2, 3, 1, 0] rfl ?_
    exact s_Descent_lineThrough_L23 FU (ha1) (wr_lit rfl) (wr_lit rfl) h
  · replace h := ite_f h c1
    refine j_aloadn (k := 0) (D_Descent_lineThrough 4 rfl) rfl rfl ?_
    refine j_getR rfl fa_Descent_11 kd_30 lc_30 (by decide) rfl fx_30_4 (by decide) (D_Descent_lineThrough 5 rfl) ?_
    refine j_aloadn (k := 0) (D_Descent_lineThrough 6 rfl) rfl rfl ?_
    refine j_iloadn (k := 1) (D_Descent_lineThrough 7 rfl) rfl rfl ?_
    obtain ⟨q2, e2, h⟩ := Option.bind_eq_some_iff.mp h
    refine j_cVi (c_Descent_chosen (ha1) e2) rfl lk_Descent_75 mok_Descent_chosen kd_30 lc_30 rfl (by decide) rfl rfl (Nat.le_of_ble_eq_true rfl) (D_Descent_lineThrough 8 rfl) (fun w2 => ?_)
    have g1 := gd_c h
    replace h := gd_s h
    refine j_iald (NI := 33) (D_Descent_lineThrough 9 rfl) kd_31 lc_31 (w2) rfl g1.1 g1.2 ?_
    exact j_iret (D_Descent_lineThrough 10 rfl) rfl (wr_gi _ _ _) rfl rfl (leafIo h (wr_n (wr_gi _ _ _)))
