/-! printed by wip/whole/gen.py out of the listing of the bytecode -/
abbrev M_Model_memoryWord : MI := (⟨"InquestHallModel", "memoryWord", "()I"⟩, prog_14_method_30_code, 1, (some .int))
theorem cw_Model_memoryWord : Cond.code M_Model_memoryWord.1 M_Model_memoryWord.2.1 M_Model_memoryWord.2.2.1 M_Model_memoryWord.2.2.2 ∈ TS := mTS (List.mem_of_getElem? (i := 1700) (by decide +kernel)) (by decide +kernel)
def tb_Model_memoryWord : List (Nat × Instr × Nat) := [(0, .aload_n 0, 1), (1, .ldc_w 300, 3), (4, .invokevirtual 247, 3), (7, .ifCond .eq 6, 3), (10, .bipush 21, 2), (12, .ireturn, 1), (13, .aload_n 0, 1), (14, .ldc_w 302, 3), (17, .invokevirtual 247, 3), (20, .ifCond .eq 6, 3), (23, .bipush 22, 2), (25, .ireturn, 1), (26, .aload_n 0, 1), (27, .ldc_w 304, 3), (30, .invokevirtual 247, 3), (33, .ifCond .eq 6, 3), (36, .bipush 23, 2), (38, .ireturn, 1), (39, .aload_n 0, 1), (40, .ldc_w 306, 3), (43, .invokevirtual 247, 3), (46, .ifCond .eq 6, 3), (49, .bipush 24, 2), (51, .ireturn, 1), (52, .aload_n 0, 1), (53, .ldc_w 308, 3), (56, .invokevirtual 247, 3), (59, .ifCond .eq 6, 3), (62, .bipush 25, 2), (64, .ireturn, 1), (65, .aload_n 0, 1), (66, .ldc_w 309, 3), (69, .invokevirtual 247, 3), (72, .ifCond .eq 8, 3), (75, .bipush 26, 2), (77, .goto 4, 3), (80, .iconst 1, 1), (81, .ireturn, 1)]
theorem D_Model_memoryWord (i : Nat) {pc len : Nat} {ins : Instr} (hi : tb_Model_memoryWord[i]? = some (pc, ins, len)) : decode M_Model_memoryWord.2.1 pc = .ok (ins, len) := dec_of (by decide +kernel) i hi
def f_Model_memoryWord (G : GS) : Option (Int) :=
  (f_Model_is G 31).bind fun q1 =>
  if q1 = 0 then
    (f_Model_is G 32).bind fun q2 =>
    if q2 = 0 then
      (f_Model_is G 33).bind fun q3 =>
      if q3 = 0 then
        (f_Model_is G 34).bind fun q4 =>
        if q4 = 0 then
          (f_Model_is G 35).bind fun q5 =>
          if q5 = 0 then
            (f_Model_is G 36).bind fun q6 =>
            if q6 = 0 then
              some 1
            else
              some 26
          else
            some 25
        else
          some 24
      else
        some 23
    else
      some 22
  else
    some 21
theorem c_Model_memoryWord {X : XT} {G : GS} {r : Int} (h : f_Model_memoryWord G = some r) : Call X true 10 0 0 M_Model_memoryWord [rf X 81] NC G (Ri r G) := by
  refine Call_of_J cw_Model_memoryWord (by decide +kernel) (Nat.le_of_ble_eq_true rfl) ?_
  unfold f_Model_memoryWord at h
  show J X true 10 0 0 M_Model_memoryWord (Ri r G) NC 0 0 0 [(0, rf X 81)] [] G
  refine j_aloadn (k := 0) (D_Model_memoryWord 0 rfl) rfl rfl ?_
  refine j_ldcwS (i := 31) rfl rfl (D_Model_memoryWord 1 rfl) ?_
  obtain ⟨q1, e1, h⟩ := Option.bind_eq_some_iff.mp h
  refine j_cVz (c_Model_is (by decide) e1) rfl lk_Model_247 mok_Model_is kd_81 lc_81 rfl (by decide) rfl rfl (Nat.le_of_ble_eq_true rfl) (D_Model_memoryWord 2 rfl) (fun w1 bw1 => ?_)
  refine j_if_eq (tgt := 13) (D_Model_memoryWord 3 rfl) rfl (w1) (fun c1 => ?_) (fun c1 => ?_)
  · replace h := ite_t h c1
    refine j_aloadn (k := 0) (D_Model_memoryWord 6 rfl) rfl rfl ?_
    refine j_ldcwS (i := 32) rfl rfl (D_Model_memoryWord 7 rfl) ?_
    obtain ⟨q2, e2, h⟩ := Option.bind_eq_some_iff.mp h
    refine j_cVz (c_Model_is (by decide) e2) rfl lk_Model_247 mok_Model_is kd_81 lc_81 rfl (by decide) rfl rfl (Nat.le_of_ble_eq_true rfl) (D_Model_memoryWord 8 rfl) (fun w2 bw2 => ?_)
    refine j_if_eq (tgt := 26) (D_Model_memoryWord 9 rfl) rfl (w2) (fun c2 => ?_) (fun c2 => ?_)
    · replace h := ite_t h c2
      refine j_aloadn (k := 0) (D_Model_memoryWord 12 rfl) rfl rfl ?_
      refine j_ldcwS (i := 33) rfl rfl (D_Model_memoryWord 13 rfl) ?_
      obtain ⟨q3, e3, h⟩ := Option.bind_eq_some_iff.mp h
      refine j_cVz (c_Model_is (by decide) e3) rfl lk_Model_247 mok_Model_is kd_81 lc_81 rfl (by decide) rfl rfl (Nat.le_of_ble_eq_true rfl) (D_Model_memoryWord 14 rfl) (fun w3 bw3 => ?_)
      refine j_if_eq (tgt := 39) (D_Model_memoryWord 15 rfl) rfl (w3) (fun c3 => ?_) (fun c3 => ?_)
      · replace h := ite_t h c3
        refine j_aloadn (k := 0) (D_Model_memoryWord 18 rfl) rfl rfl ?_
        refine j_ldcwS (i := 34) rfl rfl (D_Model_memoryWord 19 rfl) ?_
        obtain ⟨q4, e4, h⟩ := Option.bind_eq_some_iff.mp h
        refine j_cVz (c_Model_is (by decide) e4) rfl lk_Model_247 mok_Model_is kd_81 lc_81 rfl (by decide) rfl rfl (Nat.le_of_ble_eq_true rfl) (D_Model_memoryWord 20 rfl) (fun w4 bw4 => ?_)
        refine j_if_eq (tgt := 52) (D_Model_memoryWord 21 rfl) rfl (w4) (fun c4 => ?_) (fun c4 => ?_)
        · replace h := ite_t h c4
          refine j_aloadn (k := 0) (D_Model_memoryWord 24 rfl) rfl rfl ?_
          refine j_ldcwS (i := 35) rfl rfl (D_Model_memoryWord 25 rfl) ?_
          obtain ⟨q5, e5, h⟩ := Option.bind_eq_some_iff.mp h
          refine j_cVz (c_Model_is (by decide) e5) rfl lk_Model_247 mok_Model_is kd_81 lc_81 rfl (by decide) rfl rfl (Nat.le_of_ble_eq_true rfl) (D_Model_memoryWord 26 rfl) (fun w5 bw5 => ?_)
          refine j_if_eq (tgt := 65) (D_Model_memoryWord 27 rfl) rfl (w5) (fun c5 => ?_) (fun c5 => ?_)
          · replace h := ite_t h c5
            refine j_aloadn (k := 0) (D_Model_memoryWord 30 rfl) rfl rfl ?_
            refine j_ldcwS (i := 36) rfl rfl (D_Model_memoryWord 31 rfl) ?_
            obtain ⟨q6, e6, h⟩ := Option.bind_eq_some_iff.mp h
            refine j_cVz (c_Model_is (by decide) e6) rfl lk_Model_247 mok_Model_is kd_81 lc_81 rfl (by decide) rfl rfl (Nat.le_of_ble_eq_true rfl) (D_Model_memoryWord 32 rfl) (fun w6 bw6 => ?_)
            refine j_if_eq (tgt := 80) (D_Model_memoryWord 33 rfl) rfl (w6) (fun c6 => ?_) (fun c6 => ?_)
            · replace h := ite_t h c6
              refine j_iconst (v := 1) (D_Model_memoryWord 36 rfl) rfl ?_
              exact j_iret (D_Model_memoryWord 37 rfl) rfl (wr_lit rfl) rfl rfl (leafIo h (wr_n (wr_lit rfl)))
            · replace h := ite_f h c6
              refine j_bipush (v := 26) (D_Model_memoryWord 34 rfl) rfl ?_
              refine j_goto (tgt := 81) (D_Model_memoryWord 35 rfl) rfl ?_
              exact j_iret (D_Model_memoryWord 37 rfl) rfl (wr_lit rfl) rfl rfl (leafIo h (wr_n (wr_lit rfl)))
          · replace h := ite_f h c5
            refine j_bipush (v := 25) (D_Model_memoryWord 28 rfl) rfl ?_
            exact j_iret (D_Model_memoryWord 29 rfl) rfl (wr_lit rfl) rfl rfl (leafIo h (wr_n (wr_lit rfl)))
        · replace h := ite_f h c4
          refine j_bipush (v := 24) (D_Model_memoryWord 22 rfl) rfl ?_
          exact j_iret (D_Model_memoryWord 23 rfl) rfl (wr_lit rfl) rfl rfl (leafIo h (wr_n (wr_lit rfl)))
      · replace h := ite_f h c3
        refine j_bipush (v := 23) (D_Model_memoryWord 16 rfl) rfl ?_
        exact j_iret (D_Model_memoryWord 17 rfl) rfl (wr_lit rfl) rfl rfl (leafIo h (wr_n (wr_lit rfl)))
    · replace h := ite_f h c2
      refine j_bipush (v := 22) (D_Model_memoryWord 10 rfl) rfl ?_
      exact j_iret (D_Model_memoryWord 11 rfl) rfl (wr_lit rfl) rfl rfl (leafIo h (wr_n (wr_lit rfl)))
  · replace h := ite_f h c1
    refine j_bipush (v := 21) (D_Model_memoryWord 4 rfl) rfl ?_
    exact j_iret (D_Model_memoryWord 5 rfl) rfl (wr_lit rfl) rfl rfl (leafIo h (wr_n (wr_lit rfl)))
abbrev M_Model_isDigit : MI := (⟨"InquestHallModel", "isDigit", "(I)Z"⟩, prog_14_method_27_code, 1, (some .boolean))
theorem cw_Model_isDigit : Cond.code M_Model_isDigit.1 M_Model_isDigit.2.1 M_Model_isDigit.2.2.1 M_Model_isDigit.2.2.2 ∈ TS := mTS (List.mem_of_getElem? (i := 1709) (by decide +kernel)) (by decide +kernel)
def tb_Model_isDigit : List (Nat × Instr × Nat) := [(0, .iload_n 0, 1), (1, .bipush 48, 2), (3, .bipush 57, 2), (5, .invokestatic 188, 3), (8, .ireturn, 1)]
theorem D_Model_isDigit (i : Nat) {pc len : Nat} {ins : Instr} (hi : tb_Model_isDigit[i]? = some (pc, ins, len)) : decode M_Model_isDigit.2.1 pc = .ok (ins, len) := dec_of (by decide +kernel) i hi
def f_Model_isDigit (G : GS) (a0 : Int) : Option (Int) :=
  (f_Model_isIn G a0 48 57).bind fun q1 =>
  some q1
theorem c_Model_isDigit {X : XT} {G : GS} {a0 : Int} {r : Int} (ha0 : wr a0 = a0) (h : f_Model_isDigit G a0 = some r) : Call X true 7 0 0 M_Model_isDigit [vi a0] NC G (Rz r G) := by
  refine Call_of_J cw_Model_isDigit (by decide +kernel) (Nat.le_of_ble_eq_true rfl) ?_
  unfold f_Model_isDigit at h
  show J X true 7 0 0 M_Model_isDigit (Rz r G) NC 0 0 0 [(0, vi a0)] [] G
  refine j_iloadn (k := 0) (D_Model_isDigit 0 rfl) rfl rfl ?_
  refine j_bipush (v := 48) (D_Model_isDigit 1 rfl) rfl ?_
  refine j_bipush (v := 57) (D_Model_isDigit 2 rfl) rfl ?_
  obtain ⟨q1, e1, h⟩ := Option.bind_eq_some_iff.mp h
  refine j_cSz (c_Model_isIn (ha0) (wr_lit rfl) (wr_lit rfl) e1) rfl lk_Model_188 sok_Model_isIn (by decide) rfl rfl (Nat.le_of_ble_eq_true rfl) (D_Model_isDigit 3 rfl) (fun w1 bw1 => ?_)
  exact j_zret (D_Model_isDigit 4 rfl) rfl (w1) (nz_01 bw1) rfl rfl (leafZo h (wr_n (w1)) bw1)
abbrev M_Model_next0 : MI := (⟨"InquestHallModel", "next0", "()V"⟩, prog_14_method_31_code, 3, none)
theorem cw_Model_next0 : Cond.code M_Model_next0.1 M_Model_next0.2.1 M_Model_next0.2.2.1 M_Model_next0.2.2.2 ∈ TS := mTS (List.mem_of_getElem? (i := 1649) (by decide +kernel)) (by decide +kernel)
theorem lk_Model_311 : Cond.methodLink "InquestHallModel" 311 M_Model_see.1 ∈ TS := mTS (List.mem_of_getElem? (i := 1650) (by decide +kernel)) (by decide +kernel)
theorem mok_Model_see : MOK M_Model_see 1 := ⟨mTS (List.mem_of_getElem? (i := 1652) (by decide +kernel)) (by decide +kernel), mTS (List.mem_of_getElem? (i := 67) (by decide +kernel)) (by decide +kernel), mTS (List.mem_of_getElem? (i := 139) (by decide +kernel)) (by decide +kernel), cw_Model_see, ⟨by decide, by decide, by decide +kernel⟩, by decide +kernel, by decide⟩
theorem lk_Model_317 : Cond.methodLink "InquestHallModel" 317 M_Model_isLetter.1 ∈ TS := mTS (List.mem_of_getElem? (i := 1654) (by decide +kernel)) (by decide +kernel)
theorem sok_Model_isLetter : SOK M_Model_isLetter 1 := ⟨mTS (List.mem_of_getElem? (i := 1655) (by decide +kernel)) (by decide +kernel), mTS (List.mem_of_getElem? (i := 139) (by decide +kernel)) (by decide +kernel), cw_Model_isLetter, ⟨by decide, by decide, by decide +kernel⟩, by decide +kernel, by decide⟩
theorem lk_Model_329 : Cond.methodLink "InquestHallModel" 329 M_Model_isDigit.1 ∈ TS := mTS (List.mem_of_getElem? (i := 1707) (by decide +kernel)) (by decide +kernel)
theorem sok_Model_isDigit : SOK M_Model_isDigit 1 := ⟨mTS (List.mem_of_getElem? (i := 1708) (by decide +kernel)) (by decide +kernel), mTS (List.mem_of_getElem? (i := 139) (by decide +kernel)) (by decide +kernel), cw_Model_isDigit, ⟨by decide, by decide, by decide +kernel⟩, by decide +kernel, by decide⟩
theorem fa_Model_320 : FA "InquestHallModel" 320 12 53 false .boolean := ⟨_, _, _, _, ok_Model, by decide, mTS (List.mem_of_getElem? (i := 1354) (by decide +kernel)) (by decide +kernel), rfl, rfl⟩
theorem fa_Model_332 : FA "InquestHallModel" 332 12 47 false .int := ⟨_, _, _, _, ok_Model, by decide, mTS (List.mem_of_getElem? (i := 1348) (by decide +kernel)) (by decide +kernel), rfl, rfl⟩
theorem fa_Model_314 : FA "InquestHallModel" 314 12 45 false .int := ⟨_, _, _, _, ok_Model, by decide, mTS (List.mem_of_getElem? (i := 1346) (by decide +kernel)) (by decide +kernel), rfl, rfl⟩
theorem lk_Model_326 : Cond.methodLink "InquestHallModel" 326 M_Model_memoryWord.1 ∈ TS := mTS (List.mem_of_getElem? (i := 1697) (by decide +kernel)) (by decide +kernel)
theorem mok_Model_memoryWord : MOK M_Model_memoryWord 0 := ⟨mTS (List.mem_of_getElem? (i := 1699) (by decide +kernel)) (by decide +kernel), mTS (List.mem_of_getElem? (i := 70) (by decide +kernel)) (by decide +kernel), mTS (List.mem_of_getElem? (i := 139) (by decide +kernel)) (by decide +kernel), cw_Model_memoryWord, ⟨by decide, by decide, by decide +kernel⟩, by decide +kernel, by decide⟩
theorem lk_Model_323 : Cond.methodLink "InquestHallModel" 323 M_Model_lawWord.1 ∈ TS := mTS (List.mem_of_getElem? (i := 1657) (by decide +kernel)) (by decide +kernel)
theorem mok_Model_lawWord : MOK M_Model_lawWord 0 := ⟨mTS (List.mem_of_getElem? (i := 1659) (by decide +kernel)) (by decide +kernel), mTS (List.mem_of_getElem? (i := 68) (by decide +kernel)) (by decide +kernel), mTS (List.mem_of_getElem? (i := 139) (by decide +kernel)) (by decide +kernel), cw_Model_lawWord, ⟨by decide, by decide, by decide +kernel⟩, by decide +kernel, by decide⟩
def tb_Model_next0 : List (Nat × Instr × Nat) := [(0, .aload_n 0, 1), (1, .aload_n 0, 1), (2, .getfield 229, 3), (5, .invokevirtual 311, 3), (8, .bipush 32, 2), (10, .if_icmp .eq 16, 3), (13, .aload_n 0, 1), (14, .aload_n 0, 1), (15, .getfield 229, 3), (18, .invokevirtual 311, 3), (21, .bipush 10, 2), (23, .if_icmp .ne 16, 3), (26, .aload_n 0, 1), (27, .dup, 1), (28, .getfield 229, 3), (31, .iconst 1, 1), (32, .iadd, 1), (33, .putfield 229, 3), (36, .goto (-36), 3), (39, .aload_n 0, 1), (40, .aload_n 0, 1), (41, .getfield 229, 3), (44, .putfield 232, 3), (47, .aload_n 0, 1), (48, .aload_n 0, 1), (49, .getfield 229, 3), (52, .invokevirtual 311, 3), (55, .istore_n 1, 1), (56, .iload_n 1, 1), (57, .iconst (-1), 1), (58, .if_icmp .ne 11, 3), (61, .aload_n 0, 1), (62, .iconst 0, 1), (63, .putfield 314, 3), (66, .goto 259, 3), (69, .iload_n 1, 1), (70, .invokestatic 317, 3), (73, .ifCond .eq 55, 3), (76, .aload_n 0, 1), (77, .aload_n 0, 1), (78, .getfield 229, 3), (81, .invokevirtual 311, 3), (84, .invokestatic 317, 3), (87, .ifCond .eq 16, 3), (90, .aload_n 0, 1), (91, .dup, 1), (92, .getfield 229, 3), (95, .iconst 1, 1), (96, .iadd, 1), (97, .putfield 229, 3), (100, .goto (-24), 3), (103, .aload_n 0, 1), (104, .aload_n 0, 1), (105, .getfield 320, 3), (108, .ifCond .eq 10, 3), (111, .aload_n 0, 1), (112, .invokevirtual 323, 3), (115, .goto 7, 3), (118, .aload_n 0, 1), (119, .invokevirtual 326, 3), (122, .putfield 314, 3), (125, .goto 200, 3), (128, .iload_n 1, 1), (129, .invokestatic 329, 3), (132, .ifCond .eq 97, 3), (135, .aload_n 0, 1), (136, .iconst 0, 1), (137, .putfield 332, 3), (140, .aload_n 0, 1), (141, .aload_n 0, 1), (142, .getfield 229, 3), (145, .invokevirtual 311, 3), (148, .invokestatic 329, 3), (151, .ifCond .eq 52, 3), (154, .aload_n 0, 1), (155, .getfield 229, 3), (158, .aload_n 0, 1), (159, .getfield 232, 3), (162, .iconst 5, 1), (163, .iadd, 1), (164, .if_icmp .ge 26, 3), (167, .aload_n 0, 1), (168, .bipush 10, 2), (170, .aload_n 0, 1), (171, .getfield 332, 3), (174, .imul, 1), (175, .aload_n 0, 1), (176, .aload_n 0, 1), (177, .getfield 229, 3), (180, .invokevirtual 311, 3), (183, .iadd, 1), (184, .bipush 48, 2), (186, .isub, 1), (187, .putfield 332, 3), (190, .aload_n 0, 1), (191, .dup, 1), (192, .getfield 229, 3), (195, .iconst 1, 1), (196, .iadd, 1), (197, .putfield 229, 3), (200, .goto (-60), 3), (203, .aload_n 0, 1), (204, .aload_n 0, 1), (205, .getfield 229, 3), (208, .aload_n 0, 1), (209, .getfield 232, 3), (212, .isub, 1), (213, .bipush 6, 2), (215, .if_icmp .ge 7, 3), (218, .iconst 2, 1), (219, .goto 4, 3), (222, .iconst 1, 1), (223, .putfield 314, 3), (226, .goto 99, 3), (229, .aload_n 0, 1), (230, .dup, 1), (231, .getfield 229, 3), (234, .iconst 1, 1), (235, .iadd, 1), (236, .putfield 229, 3), (239, .iload_n 1, 1), (240, .bipush 59, 2), (242, .if_icmp .eq 64, 3), (245, .aload_n 0, 1), (246, .getfield 320, 3), (249, .ifCond .eq 61, 3), (252, .iload_n 1, 1), (253, .bipush 43, 2), (255, .if_icmp .eq 51, 3), (258, .iload_n 1, 1), (259, .bipush 45, 2), (261, .if_icmp .eq 45, 3), (264, .iload_n 1, 1), (265, .bipush 42, 2), (267, .if_icmp .eq 39, 3), (270, .iload_n 1, 1), (271, .bipush 47, 2), (273, .if_icmp .eq 33, 3), (276, .iload_n 1, 1), (277, .bipush 40, 2), (279, .if_icmp .eq 27, 3), (282, .iload_n 1, 1), (283, .bipush 41, 2), (285, .if_icmp .eq 21, 3), (288, .iload_n 1, 1), (289, .bipush 60, 2), (291, .if_icmp .eq 15, 3), (294, .iload_n 1, 1), (295, .bipush 61, 2), (297, .if_icmp .eq 9, 3), (300, .iload_n 1, 1), (301, .bipush 62, 2), (303, .if_icmp .ne 7, 3), (306, .iconst 1, 1), (307, .goto 4, 3), (310, .iconst 0, 1), (311, .istore_n 2, 1), (312, .aload_n 0, 1), (313, .iload_n 2, 1), (314, .ifCond .eq 7, 3), (317, .iload_n 1, 1), (318, .goto 4, 3), (321, .iconst 1, 1), (322, .putfield 314, 3), (325, .return_, 1)]
theorem D_Model_next0 (i : Nat) {pc len : Nat} {ins : Instr} (hi : tb_Model_next0[i]? = some (pc, ins, len)) : decode M_Model_next0.2.1 pc = .ok (ins, len) := dec_of (by decide +kernel) i hi
def f_Model_next0_L26 (k0 : GS → Option (GS)) (G : GS) : Option (GS) :=
  wG (si G 81 44 ((gi G 81 44) + 1)) fun G1 =>
  k0 G1
theorem s_Model_next0_L26 {X : XT} {r : GS} {k0 : GS → Option (GS)} (hk0 : ∀ {G : GS} , k0 G = some r → J X true 11 0 0 M_Model_next0 (Rv r) NC 0 0 0 [(0, rf X 81)] [] G) : ∀ {G : GS}, f_Model_next0_L26 k0 G = some r → J X true 11 0 0 M_Model_next0 (Rv r) NC 0 0 26 [(0, rf X 81)] [] G := by
  intro G h
  unfold f_Model_next0_L26 at h
  refine j_aloadn (k := 0) (D_Model_next0 12 rfl) rfl rfl ?_
  refine j_dup (D_Model_next0 13 rfl) rfl ?_
  refine j_getI rfl fa_Model_229 kd_81 lc_81 (by decide) rfl (D_Model_next0 14 rfl) ?_
  refine j_iconst (v := 1) (D_Model_next0 15 rfl) rfl ?_
  refine j_iadd (D_Model_next0 16 rfl) ?_
  refine j_putI rfl fa_Model_229 kd_81 lc_81 (by decide) rfl (D_Model_next0 17 rfl) ?_
  refine j_gen (fun G1 e1 => ?_)
  replace h := wG_at h e1
  refine j_goto (tgt := 0) (D_Model_next0 18 rfl) rfl ?_
  refine j_loc [0] rfl ?_
  exact hk0 h
def f_Model_next0_L322 (G : GS) (s0 : Int) : Option (GS) :=
  wG (si G 81 45 s0) fun G1 =>
  some G1
theorem s_Model_next0_L322 {X : XT} {r : GS} : ∀ {G : GS} {s0 : Int}, wr s0 = s0 → f_Model_next0_L322 G s0 = some r → J X true 11 0 0 M_Model_next0 (Rv r) NC 0 0 322 [(0, rf X 81)] [vi s0, rf X 81] G := by
  intro G s0 hs0 h
  unfold f_Model_next0_L322 at h
  refine j_putI rfl fa_Model_314 kd_81 lc_81 (by decide) rfl (D_Model_next0 163 rfl) ?_
  refine j_gen (fun G1 e1 => ?_)
  replace h := wG_at h e1
  exact j_vret (D_Model_next0 164 rfl) rfl rfl rfl (leafV h)
def f_Model_next0_L311 (G : GS) (x1 : Int) (s0 : Int) : Option (GS) :=
  if s0 = 0 then
    f_Model_next0_L322 G 1
  else
    f_Model_next0_L322 G x1
theorem s_Model_next0_L311 {X : XT} {r : GS} : ∀ {G : GS} {x1 : Int} {s0 : Int}, wr x1 = x1 → wr s0 = s0 → f_Model_next0_L311 G x1 s0 = some r → J X true 11 0 0 M_Model_next0 (Rv r) NC 0 0 311 [(0, rf X 81), (1, vi x1)] [vi s0] G := by
  intro G x1 s0 hx1 hs0 h
  unfold f_Model_next0_L311 at h
  refine j_istoren (L' := [(2, vi s0), (0, rf X 81), (1, vi x1)]) (D_Model_next0 156 rfl) rfl (hs0) (by decide) rfl ?_
  refine j_aloadn (k := 1) (D_Model_next0 157 rfl) rfl rfl ?_
  refine j_iloadn (k := 0) (D_Model_next0 158 rfl) rfl rfl ?_
  refine j_if_eq (tgt := 321) (D_Model_next0 159 rfl) rfl (hs0) (fun c1 => ?_) (fun c1 => ?_)
  · replace h := ite_t h c1
    refine j_iconst (v := 1) (D_Model_next0 162 rfl) rfl ?_
    refine j_loc [1] rfl ?_
    exact s_Model_next0_L322 (wr_lit rfl) h
  · replace h := ite_f h c1
    refine j_iloadn (k := 2) (D_Model_next0 160 rfl) rfl rfl ?_
    refine j_goto (tgt := 322) (D_Model_next0 161 rfl) rfl ?_
    refine j_loc [1] rfl ?_
    exact s_Model_next0_L322 (hx1) h
def f_Model_next0_L306 (G : GS) (x1 : Int) : Option (GS) :=
  f_Model_next0_L311 G x1 1
theorem s_Model_next0_L306 {X : XT} {r : GS} : ∀ {G : GS} {x1 : Int}, wr x1 = x1 → f_Model_next0_L306 G x1 = some r → J X true 11 0 0 M_Model_next0 (Rv r) NC 0 0 306 [(0, rf X 81), (1, vi x1)] [] G := by
  intro G x1 hx1 h
  unfold f_Model_next0_L306 at h
  refine j_iconst (v := 1) (D_Model_next0 153 rfl) rfl ?_
  refine j_goto (tgt := 311) (D_Model_next0 154 rfl) rfl ?_
  refine j_loc [0, 1] rfl ?_
  exact s_Model_next0_L311 (hx1) (wr_lit rfl) h
def f_Model_next0_L310 (G : GS) (x1 : Int) : Option (GS) :=
  f_Model_next0_L311 G x1 0
theorem s_Model_next0_L310 {X : XT} {r : GS} : ∀ {G : GS} {x1 : Int}, wr x1 = x1 → f_Model_next0_L310 G x1 = some r → J X true 11 0 0 M_Model_next0 (Rv r) NC 0 0 310 [(0, rf X 81), (1, vi x1)] [] G := by
  intro G x1 hx1 h
  unfold f_Model_next0_L310 at h
  refine j_iconst (v := 0) (D_Model_next0 155 rfl) rfl ?_
  refine j_loc [0, 1] rfl ?_
  exact s_Model_next0_L311 (hx1) (wr_lit rfl) h
def f_Model_next0_L223 (G : GS) (s0 : Int) : Option (GS) :=
  wG (si G 81 45 s0) fun G1 =>
  some G1
theorem s_Model_next0_L223 {X : XT} {r : GS} : ∀ {G : GS} {s0 : Int}, wr s0 = s0 → f_Model_next0_L223 G s0 = some r → J X true 11 0 0 M_Model_next0 (Rv r) NC 0 0 223 [(0, rf X 81)] [vi s0, rf X 81] G := by
  intro G s0 hs0 h
  unfold f_Model_next0_L223 at h
  refine j_putI rfl fa_Model_314 kd_81 lc_81 (by decide) rfl (D_Model_next0 112 rfl) ?_
  refine j_gen (fun G1 e1 => ?_)
  replace h := wG_at h e1
  refine j_goto (tgt := 325) (D_Model_next0 113 rfl) rfl ?_
  exact j_vret (D_Model_next0 164 rfl) rfl rfl rfl (leafV h)
def f_Model_next0_L190 (k140 : GS → Option (GS)) (G : GS) : Option (GS) :=
  wG (si G 81 44 ((gi G 81 44) + 1)) fun G1 =>
  k140 G1
theorem s_Model_next0_L190 {X : XT} {r : GS} {k140 : GS → Option (GS)} (hk140 : ∀ {G : GS} , k140 G = some r → J X true 11 0 0 M_Model_next0 (Rv r) NC 0 0 140 [(0, rf X 81)] [] G) : ∀ {G : GS}, f_Model_next0_L190 k140 G = some r → J X true 11 0 0 M_Model_next0 (Rv r) NC 0 0 190 [(0, rf X 81)] [] G := by
  intro G h
  unfold f_Model_next0_L190 at h
  refine j_aloadn (k := 0) (D_Model_next0 94 rfl) rfl rfl ?_
  refine j_dup (D_Model_next0 95 rfl) rfl ?_
  refine j_getI rfl fa_Model_229 kd_81 lc_81 (by decide) rfl (D_Model_next0 96 rfl) ?_
  refine j_iconst (v := 1) (D_Model_next0 97 rfl) rfl ?_
  refine j_iadd (D_Model_next0 98 rfl) ?_
  refine j_putI rfl fa_Model_229 kd_81 lc_81 (by decide) rfl (D_Model_next0 99 rfl) ?_
  refine j_gen (fun G1 e1 => ?_)
  replace h := wG_at h e1
  refine j_goto (tgt := 140) (D_Model_next0 100 rfl) rfl ?_
  refine j_loc [0] rfl ?_
  exact hk140 h
def f_Model_next0_L140 : Nat → GS → Option (GS)
  | 0, _ => none
  | n + 1, G =>
    (f_Model_see G (gi G 81 44)).bind fun q1 =>
    (f_Model_isDigit G q1).bind fun q2 =>
    if q2 = 0 then
      if 6 ≤ wr ((gi G 81 44) - (gi G 81 46)) then
        f_Model_next0_L223 G 1
      else
        f_Model_next0_L223 G 2
    else
      if wr ((gi G 81 46) + 5) ≤ gi G 81 44 then
        f_Model_next0_L190 (f_Model_next0_L140 n) G
      else
        (f_Model_see G (gi G 81 44)).bind fun q3 =>
        wG (si G 81 47 (((10 * (gi G 81 47)) + q3) - 48)) fun G1 =>
        f_Model_next0_L190 (f_Model_next0_L140 n) G1
theorem s_Model_next0_L140 {X : XT} {r : GS} : ∀ (n : Nat) {G : GS}, f_Model_next0_L140 n G = some r → J X true 11 0 0 M_Model_next0 (Rv r) NC 0 0 140 [(0, rf X 81)] [] G := by
  intro n
  induction n with
  | zero =>
    intro G h
    exact none_some h
  | succ n ih =>
    intro G h
    rw [f_Model_next0_L140] at h
    refine j_aloadn (k := 0) (D_Model_next0 68 rfl) rfl rfl ?_
    refine j_aloadn (k := 0) (D_Model_next0 69 rfl) rfl rfl ?_
    refine j_getI rfl fa_Model_229 kd_81 lc_81 (by decide) rfl (D_Model_next0 70 rfl) ?_
    obtain ⟨q1, e1, h⟩ := Option.bind_eq_some_iff.mp h
    refine j_cVi (c_Model_see (wr_gi _ _ _) e1) rfl lk_Model_311 mok_Model_see kd_81 lc_81 rfl (by decide) rfl rfl (Nat.le_of_ble_eq_true rfl) (D_Model_next0 71 rfl) (fun w1 => ?_)
    obtain ⟨q2, e2, h⟩ := Option.bind_eq_some_iff.mp h
    refine j_cSz (c_Model_isDigit (w1) e2) rfl lk_Model_329 sok_Model_isDigit (by decide) rfl rfl (Nat.le_of_ble_eq_true rfl) (D_Model_next0 72 rfl) (fun w2 bw2 => ?_)
    refine j_if_eq (tgt := 203) (D_Model_next0 73 rfl) rfl (w2) (fun c1 => ?_) (fun c1 => ?_)
    · replace h := ite_t h c1
      refine j_aloadn (k := 0) (D_Model_next0 101 rfl) rfl rfl ?_
      refine j_aloadn (k := 0) (D_Model_next0 102 rfl) rfl rfl ?_
      refine j_getI rfl fa_Model_229 kd_81 lc_81 (by decide) rfl (D_Model_next0 103 rfl) ?_
      refine j_aloadn (k := 0) (D_Model_next0 104 rfl) rfl rfl ?_
      refine j_getI rfl fa_Model_232 kd_81 lc_81 (by decide) rfl (D_Model_next0 105 rfl) ?_
      refine j_isub (D_Model_next0 106 rfl) ?_
      refine j_bipush (v := 6) (D_Model_next0 107 rfl) rfl ?_
      refine j_ic_ge (tgt := 222) (D_Model_next0 108 rfl) rfl (rfl) (wr_lit rfl) (fun c2 => ?_) (fun c2 => ?_)
      · replace h := ite_t h c2
        refine j_iconst (v := 1) (D_Model_next0 111 rfl) rfl ?_
        refine j_loc [0] rfl ?_
        exact s_Model_next0_L223 (wr_lit rfl) h
      · replace h := ite_f h c2
        refine j_iconst (v := 2) (D_Model_next0 109 rfl) rfl ?_
        refine j_goto (tgt := 223) (D_Model_next0 110 rfl) rfl ?_
        refine j_loc [0] rfl ?_
        exact s_Model_next0_L223 (wr_lit rfl) h
    · replace h := ite_f h c1
      refine j_aloadn (k := 0) (D_Model_next0 74 rfl) rfl rfl ?_
      refine j_getI rfl fa_Model_229 kd_81 lc_81 (by decide) rfl (D_Model_next0 75 rfl) ?_
      refine j_aloadn (k := 0) (D_Model_next0 76 rfl) rfl rfl ?_
      refine j_getI rfl fa_Model_232 kd_81 lc_81 (by decide) rfl (D_Model_next0 77 rfl) ?_
      refine j_iconst (v := 5) (D_Model_next0 78 rfl) rfl ?_
      refine j_iadd (D_Model_next0 79 rfl) ?_
      refine j_ic_ge (tgt := 190) (D_Model_next0 80 rfl) rfl (wr_gi _ _ _) (rfl) (fun c3 => ?_) (fun c3 => ?_)
      · replace h := ite_t h c3
        refine j_loc [0] rfl ?_
        exact s_Model_next0_L190 ih h
      · replace h := ite_f h c3
        refine j_aloadn (k := 0) (D_Model_next0 81 rfl) rfl rfl ?_
        refine j_bipush (v := 10) (D_Model_next0 82 rfl) rfl ?_
        refine j_aloadn (k := 0) (D_Model_next0 83 rfl) rfl rfl ?_
        refine j_getI rfl fa_Model_332 kd_81 lc_81 (by decide) rfl (D_Model_next0 84 rfl) ?_
        refine j_imul (D_Model_next0 85 rfl) ?_
        refine j_aloadn (k := 0) (D_Model_next0 86 rfl) rfl rfl ?_
        refine j_aloadn (k := 0) (D_Model_next0 87 rfl) rfl rfl ?_
        refine j_getI rfl fa_Model_229 kd_81 lc_81 (by decide) rfl (D_Model_next0 88 rfl) ?_
        obtain ⟨q3, e3, h⟩ := Option.bind_eq_some_iff.mp h
        refine j_cVi (c_Model_see (wr_gi _ _ _) e3) rfl lk_Model_311 mok_Model_see kd_81 lc_81 rfl (by decide) rfl rfl (Nat.le_of_ble_eq_true rfl) (D_Model_next0 89 rfl) (fun w3 => ?_)
        refine j_iadd (D_Model_next0 90 rfl) ?_
        refine j_bipush (v := 48) (D_Model_next0 91 rfl) rfl ?_
        refine j_isub (D_Model_next0 92 rfl) ?_
        refine j_putI rfl fa_Model_332 kd_81 lc_81 (by decide) rfl (D_Model_next0 93 rfl) ?_
        refine j_gen (fun G1 e4 => ?_)
        replace h := wG_at h e4
        refine j_loc [0] rfl ?_
        exact s_Model_next0_L190 ih h
def f_Model_next0_L122 (G : GS) (s0 : Int) : Option (GS) :=
  wG (si G 81 45 s0) fun G1 =>
  some G1
theorem s_Model_next0_L122 {X : XT} {r : GS} : ∀ {G : GS} {s0 : Int}, wr s0 = s0 → f_Model_next0_L122 G s0 = some r → J X true 11 0 0 M_Model_next0 (Rv r) NC 0 0 122 [(0, rf X 81)] [vi s0, rf X 81] G := by
  intro G s0 hs0 h
  unfold f_Model_next0_L122 at h
  refine j_putI rfl fa_Model_314 kd_81 lc_81 (by decide) rfl (D_Model_next0 60 rfl) ?_
  refine j_gen (fun G1 e1 => ?_)
  replace h := wG_at h e1
  refine j_goto (tgt := 325) (D_Model_next0 61 rfl) rfl ?_
  exact j_vret (D_Model_next0 164 rfl) rfl rfl rfl (leafV h)
def f_Model_next0_L76 : Nat → GS → Option (GS)
  | 0, _ => none
  | n + 1, G =>
    (f_Model_see G (gi G 81 44)).bind fun q1 =>
    (f_Model_isLetter G q1).bind fun q2 =>
    if q2 = 0 then
      if gi G 81 53 = 0 then
        (f_Model_memoryWord G).bind fun q3 =>
        f_Model_next0_L122 G q3
      else
        (f_Model_lawWord G).bind fun q4 =>
        f_Model_next0_L122 G q4
    else
      wG (si G 81 44 ((gi G 81 44) + 1)) fun G1 =>
      f_Model_next0_L76 n G1
theorem s_Model_next0_L76 {X : XT} {r : GS} : ∀ (n : Nat) {G : GS}, f_Model_next0_L76 n G = some r → J X true 11 0 0 M_Model_next0 (Rv r) NC 0 0 76 [(0, rf X 81)] [] G := by
  intro n
  induction n with
  | zero =>
    intro G h
    exact none_some h
  | succ n ih =>
    intro G h
    rw [f_Model_next0_L76] at h
    refine j_aloadn (k := 0) (D_Model_next0 38 rfl) rfl rfl ?_
    refine j_aloadn (k := 0) (D_Model_next0 39 rfl) rfl rfl ?_
    refine j_getI rfl fa_Model_229 kd_81 lc_81 (by decide) rfl (D_Model_next0 40 rfl) ?_
    obtain ⟨q1, e1, h⟩ := Option.bind_eq_some_iff.mp h
    refine j_cVi (c_Model_see (wr_gi _ _ _) e1) rfl lk_Model_311 mok_Model_see kd_81 lc_81 rfl (by decide) rfl rfl (Nat.le_of_ble_eq_true rfl) (D_Model_next0 41 rfl) (fun w1 => ?_)
    obtain ⟨q2, e2, h⟩ := Option.bind_eq_some_iff.mp h
    refine j_cSz (c_Model_isLetter (w1) e2) rfl lk_Model_317 sok_Model_isLetter (by decide) rfl rfl (Nat.le_of_ble_eq_true rfl) (D_Model_next0 42 rfl) (fun w2 bw2 => ?_)
    refine j_if_eq (tgt := 103) (D_Model_next0 43 rfl) rfl (w2) (fun c1 => ?_) (fun c1 => ?_)
    · replace h := ite_t h c1
      refine j_aloadn (k := 0) (D_Model_next0 51 rfl) rfl rfl ?_
      refine j_aloadn (k := 0) (D_Model_next0 52 rfl) rfl rfl ?_
      refine j_getI rfl fa_Model_320 kd_81 lc_81 (by decide) rfl (D_Model_next0 53 rfl) ?_
      refine j_if_eq (tgt := 118) (D_Model_next0 54 rfl) rfl (wr_gi _ _ _) (fun c2 => ?_) (fun c2 => ?_)
      · replace h := ite_t h c2
        refine j_aloadn (k := 0) (D_Model_next0 58 rfl) rfl rfl ?_
        obtain ⟨q3, e3, h⟩ := Option.bind_eq_some_iff.mp h
        refine j_cVi (c_Model_memoryWord e3) rfl lk_Model_326 mok_Model_memoryWord kd_81 lc_81 rfl (by decide) rfl rfl (Nat.le_of_ble_eq_true rfl) (D_Model_next0 59 rfl) (fun w3 => ?_)
        refine j_loc [0] rfl ?_
        exact s_Model_next0_L122 (w3) h
      · replace h := ite_f h c2
        refine j_aloadn (k := 0) (D_Model_next0 55 rfl) rfl rfl ?_
        obtain ⟨q4, e4, h⟩ := Option.bind_eq_some_iff.mp h
        refine j_cVi (c_Model_lawWord e4) rfl lk_Model_323 mok_Model_lawWord kd_81 lc_81 rfl (by decide) rfl rfl (Nat.le_of_ble_eq_true rfl) (D_Model_next0 56 rfl) (fun w4 => ?_)
        refine j_goto (tgt := 122) (D_Model_next0 57 rfl) rfl ?_
        refine j_loc [0] rfl ?_
        exact s_Model_next0_L122 (w4) h
    · replace h := ite_f h c1
      refine j_aloadn (k := 0) (D_Model_next0 44 rfl) rfl rfl ?_
      refine j_dup (D_Model_next0 45 rfl) rfl ?_
      refine j_getI rfl fa_Model_229 kd_81 lc_81 (by decide) rfl (D_Model_next0 46 rfl) ?_
      refine j_iconst (v := 1) (D_Model_next0 47 rfl) rfl ?_
      refine j_iadd (D_Model_next0 48 rfl) ?_
      refine j_putI rfl fa_Model_229 kd_81 lc_81 (by decide) rfl (D_Model_next0 49 rfl) ?_
      refine j_gen (fun G1 e5 => ?_)
      replace h := wG_at h e5
      refine j_goto (tgt := 76) (D_Model_next0 50 rfl) rfl ?_
      refine j_loc [0] rfl ?_
      exact ih h
def f_Model_next0_L0 : Nat → GS → Option (GS)
  | 0, _ => none
  | n + 1, G =>
    (f_Model_see G (gi G 81 44)).bind fun q1 =>
    if q1 = 32 then
      f_Model_next0_L26 (f_Model_next0_L0 n) G
    else
      (f_Model_see G (gi G 81 44)).bind fun q2 =>
      if q2 = 10 then
        f_Model_next0_L26 (f_Model_next0_L0 n) G
      else
        wG (si G 81 46 (gi G 81 44)) fun G1 =>
        (f_Model_see G1 (gi G1 81 44)).bind fun q3 =>
        if q3 = (-1) then
          wG (si G1 81 45 0) fun G4 =>
          some G4
        else
          (f_Model_isLetter G1 q3).bind fun q4 =>
          if q4 = 0 then
            (f_Model_isDigit G1 q3).bind fun q5 =>
            if q5 = 0 then
              wG (si G1 81 44 ((gi G1 81 44) + 1)) fun G2 =>
              if q3 = 59 then
                f_Model_next0_L306 G2 q3
              else
                if gi G2 81 53 = 0 then
                  f_Model_next0_L310 G2 q3
                else
                  if q3 = 43 then
                    f_Model_next0_L306 G2 q3
                  else
                    if q3 = 45 then
                      f_Model_next0_L306 G2 q3
                    else
                      if q3 = 42 then
                        f_Model_next0_L306 G2 q3
                      else
                        if q3 = 47 then
                          f_Model_next0_L306 G2 q3
                        else
                          if q3 = 40 then
                            f_Model_next0_L306 G2 q3
                          else
                            if q3 = 41 then
                              f_Model_next0_L306 G2 q3
                            else
                              if q3 = 60 then
                                f_Model_next0_L306 G2 q3
                              else
                                if q3 = 61 then
                                  f_Model_next0_L306 G2 q3
                                else
                                  if q3 = 62 then
                                    f_Model_next0_L306 G2 q3
                                  else
                                    f_Model_next0_L310 G2 q3
            else
              wG (si G1 81 47 0) fun G3 =>
              f_Model_next0_L140 FU G3
          else
            f_Model_next0_L76 FU G1
theorem s_Model_next0_L0 {X : XT} {r : GS} : ∀ (n : Nat) {G : GS}, f_Model_next0_L0 n G = some r → J X true 11 0 0 M_Model_next0 (Rv r) NC 0 0 0 [(0, rf X 81)] [] G := by
  intro n
  induction n with
  | zero =>
    intro G h
    exact none_some h
  | succ n ih =>
    intro G h
    rw [f_Model_next0_L0] at h
    refine j_aloadn (k := 0) (D_Model_next0 0 rfl) rfl rfl ?_
    refine j_aloadn (k := 0) (D_Model_next0 1 rfl) rfl rfl ?_
    refine j_getI rfl fa_Model_229 kd_81 lc_81 (by decide) rfl (D_Model_next0 2 rfl) ?_
    obtain ⟨q1, e1, h⟩ := Option.bind_eq_some_iff.mp h
    refine j_cVi (c_Model_see (wr_gi _ _ _) e1) rfl lk_Model_311 mok_Model_see kd_81 lc_81 rfl (by decide) rfl rfl (Nat.le_of_ble_eq_true rfl) (D_Model_next0 3 rfl) (fun w1 => ?_)
    refine j_bipush (v := 32) (D_Model_next0 4 rfl) rfl ?_
    refine j_ic_eq (tgt := 26) (D_Model_next0 5 rfl) rfl (w1) (wr_lit rfl) (fun c1 => ?_) (fun c1 => ?_)
    · replace h := ite_t h c1
      refine j_loc [0] rfl ?_
      exact s_Model_next0_L26 ih h
    · replace h := ite_f h c1
      refine j_aloadn (k := 0) (D_Model_next0 6 rfl) rfl rfl ?_
      refine j_aloadn (k := 0) (D_Model_next0 7 rfl) rfl rfl ?_
      refine j_getI rfl fa_Model_229 kd_81 lc_81 (by decide) rfl (D_Model_next0 8 rfl) ?_
      obtain ⟨q2, e2, h⟩ := Option.bind_eq_some_iff.mp h
      refine j_cVi (c_Model_see (wr_gi _ _ _) e2) rfl lk_Model_311 mok_Model_see kd_81 lc_81 rfl (by decide) rfl rfl (Nat.le_of_ble_eq_true rfl) (D_Model_next0 9 rfl) (fun w2 => ?_)
      refine j_bipush (v := 10) (D_Model_next0 10 rfl) rfl ?_
      refine j_ic_ne (tgt := 39) (D_Model_next0 11 rfl) rfl (w2) (wr_lit rfl) (fun c2 => ?_) (fun c2 => ?_)
      · replace h := ite_f h c2
        refine j_aloadn (k := 0) (D_Model_next0 19 rfl) rfl rfl ?_
        refine j_aloadn (k := 0) (D_Model_next0 20 rfl) rfl rfl ?_
        refine j_getI rfl fa_Model_229 kd_81 lc_81 (by decide) rfl (D_Model_next0 21 rfl) ?_
        refine j_putI rfl fa_Model_232 kd_81 lc_81 (by decide) rfl (D_Model_next0 22 rfl) ?_
        refine j_gen (fun G1 e3 => ?_)
        replace h := wG_at h e3
        refine j_aloadn (k := 0) (D_Model_next0 23 rfl) rfl rfl ?_
        refine j_aloadn (k := 0) (D_Model_next0 24 rfl) rfl rfl ?_
        refine j_getI rfl fa_Model_229 kd_81 lc_81 (by decide) rfl (D_Model_next0 25 rfl) ?_
        obtain ⟨q3, e4, h⟩ := Option.bind_eq_some_iff.mp h
        refine j_cVi (c_Model_see (wr_gi _ _ _) e4) rfl lk_Model_311 mok_Model_see kd_81 lc_81 rfl (by decide) rfl rfl (Nat.le_of_ble_eq_true rfl) (D_Model_next0 26 rfl) (fun w3 => ?_)
        refine j_istoren (L' := [(1, vi q3), (0, rf X 81)]) (D_Model_next0 27 rfl) rfl (w3) (by decide) rfl ?_
        refine j_iloadn (k := 0) (D_Model_next0 28 rfl) rfl rfl ?_
        refine j_iconst (v := (-1)) (D_Model_next0 29 rfl) rfl ?_
        refine j_ic_ne (tgt := 69) (D_Model_next0 30 rfl) rfl (w3) (wr_lit rfl) (fun c3 => ?_) (fun c3 => ?_)
        · replace h := ite_f h c3
          refine j_iloadn (k := 0) (D_Model_next0 35 rfl) rfl rfl ?_
          obtain ⟨q4, e5, h⟩ := Option.bind_eq_some_iff.mp h
          refine j_cSz (c_Model_isLetter (w3) e5) rfl lk_Model_317 sok_Model_isLetter (by decide) rfl rfl (Nat.le_of_ble_eq_true rfl) (D_Model_next0 36 rfl) (fun w4 bw4 => ?_)
          refine j_if_eq (tgt := 128) (D_Model_next0 37 rfl) rfl (w4) (fun c4 => ?_) (fun c4 => ?_)
          · replace h := ite_t h c4
            refine j_iloadn (k := 0) (D_Model_next0 62 rfl) rfl rfl ?_
            obtain ⟨q5, e6, h⟩ := Option.bind_eq_some_iff.mp h
            refine j_cSz (c_Model_isDigit (w3) e6) rfl lk_Model_329 sok_Model_isDigit (by decide) rfl rfl (Nat.le_of_ble_eq_true rfl) (D_Model_next0 63 rfl) (fun w5 bw5 => ?_)
            refine j_if_eq (tgt := 229) (D_Model_next0 64 rfl) rfl (w5) (fun c5 => ?_) (fun c5 => ?_)
            · replace h := ite_t h c5
              refine j_aloadn (k := 1) (D_Model_next0 114 rfl) rfl rfl ?_
              refine j_dup (D_Model_next0 115 rfl) rfl ?_
              refine j_getI rfl fa_Model_229 kd_81 lc_81 (by decide) rfl (D_Model_next0 116 rfl) ?_
              refine j_iconst (v := 1) (D_Model_next0 117 rfl) rfl ?_
              refine j_iadd (D_Model_next0 118 rfl) ?_
              refine j_putI rfl fa_Model_229 kd_81 lc_81 (by decide) rfl (D_Model_next0 119 rfl) ?_
              refine j_gen (fun G2 e7 => ?_)
              replace h := wG_at h e7
              refine j_iloadn (k := 0) (D_Model_next0 120 rfl) rfl rfl ?_
              refine j_bipush (v := 59) (D_Model_next0 121 rfl) rfl ?_
              refine j_ic_eq (tgt := 306) (D_Model_next0 122 rfl) rfl (w3) (wr_lit rfl) (fun c6 => ?_) (fun c6 => ?_)
              · replace h := ite_t h c6
                refine j_loc [1, 0] rfl ?_
                exact s_Model_next0_L306 (w3) h
              · replace h := ite_f h c6
                refine j_aloadn (k := 1) (D_Model_next0 123 rfl) rfl rfl ?_
                refine j_getI rfl fa_Model_320 kd_81 lc_81 (by decide) rfl (D_Model_next0 124 rfl) ?_
                refine j_if_eq (tgt := 310) (D_Model_next0 125 rfl) rfl (wr_gi _ _ _) (fun c7 => ?_) (fun c7 => ?_)
                · replace h := ite_t h c7
                  refine j_loc [1, 0] rfl ?_
                  exact s_Model_next0_L310 (w3) h
                · replace h := ite_f h c7
                  refine j_iloadn (k := 0) (D_Model_next0 126 rfl) rfl rfl ?_
                  refine j_bipush (v := 43) (D_Model_next0 127 rfl) rfl ?_
                  refine j_ic_eq (tgt := 306) (D_Model_next0 128 rfl) rfl (w3) (wr_lit rfl) (fun c8 => ?_) (fun c8 => ?_)
                  · replace h := ite_t h c8
                    refine j_loc [1, 0] rfl ?_
                    exact s_Model_next0_L306 (w3) h
                  · replace h := ite_f h c8
                    refine j_iloadn (k := 0) (D_Model_next0 129 rfl) rfl rfl ?_
                    refine j_bipush (v := 45) (D_Model_next0 130 rfl) rfl ?_
                    refine j_ic_eq (tgt := 306) (D_Model_next0 131 rfl) rfl (w3) (wr_lit rfl) (fun c9 => ?_) (fun c9 => ?_)
                    · replace h := ite_t h c9
                      refine j_loc [1, 0] rfl ?_
                      exact s_Model_next0_L306 (w3) h
                    · replace h := ite_f h c9
                      refine j_iloadn (k := 0) (D_Model_next0 132 rfl) rfl rfl ?_
                      refine j_bipush (v := 42) (D_Model_next0 133 rfl) rfl ?_
                      refine j_ic_eq (tgt := 306) (D_Model_next0 134 rfl) rfl (w3) (wr_lit rfl) (fun c10 => ?_) (fun c10 => ?_)
                      · replace h := ite_t h c10
                        refine j_loc [1, 0] rfl ?_
                        exact s_Model_next0_L306 (w3) h
                      · replace h := ite_f h c10
                        refine j_iloadn (k := 0) (D_Model_next0 135 rfl) rfl rfl ?_
                        refine j_bipush (v := 47) (D_Model_next0 136 rfl) rfl ?_
                        refine j_ic_eq (tgt := 306) (D_Model_next0 137 rfl) rfl (w3) (wr_lit rfl) (fun c11 => ?_) (fun c11 => ?_)
                        · replace h := ite_t h c11
                          refine j_loc [1, 0] rfl ?_
                          exact s_Model_next0_L306 (w3) h
                        · replace h := ite_f h c11
                          refine j_iloadn (k := 0) (D_Model_next0 138 rfl) rfl rfl ?_
                          refine j_bipush (v := 40) (D_Model_next0 139 rfl) rfl ?_
                          refine j_ic_eq (tgt := 306) (D_Model_next0 140 rfl) rfl (w3) (wr_lit rfl) (fun c12 => ?_) (fun c12 => ?_)
                          · replace h := ite_t h c12
                            refine j_loc [1, 0] rfl ?_
                            exact s_Model_next0_L306 (w3) h
                          · replace h := ite_f h c12
                            refine j_iloadn (k := 0) (D_Model_next0 141 rfl) rfl rfl ?_
                            refine j_bipush (v := 41) (D_Model_next0 142 rfl) rfl ?_
                            refine j_ic_eq (tgt := 306) (D_Model_next0 143 rfl) rfl (w3) (wr_lit rfl) (fun c13 => ?_) (fun c13 => ?_)
                            · replace h := ite_t h c13
                              refine j_loc [1, 0] rfl ?_
                              exact s_Model_next0_L306 (w3) h
                            · replace h := ite_f h c13
                              refine j_iloadn (k := 0) (D_Model_next0 144 rfl) rfl rfl ?_
                              refine j_bipush (v := 60) (D_Model_next0 145 rfl) rfl ?_
                              refine j_ic_eq (tgt := 306) (D_Model_next0 146 rfl) rfl (w3) (wr_lit rfl) (fun c14 => ?_) (fun c14 => ?_)
                              · replace h := ite_t h c14
                                refine j_loc [1, 0] rfl ?_
                                exact s_Model_next0_L306 (w3) h
                              · replace h := ite_f h c14
                                refine j_iloadn (k := 0) (D_Model_next0 147 rfl) rfl rfl ?_
                                refine j_bipush (v := 61) (D_Model_next0 148 rfl) rfl ?_
                                refine j_ic_eq (tgt := 306) (D_Model_next0 149 rfl) rfl (w3) (wr_lit rfl) (fun c15 => ?_) (fun c15 => ?_)
                                · replace h := ite_t h c15
                                  refine j_loc [1, 0] rfl ?_
                                  exact s_Model_next0_L306 (w3) h
                                · replace h := ite_f h c15
                                  refine j_iloadn (k := 0) (D_Model_next0 150 rfl) rfl rfl ?_
                                  refine j_bipush (v := 62) (D_Model_next0 151 rfl) rfl ?_
                                  refine j_ic_ne (tgt := 310) (D_Model_next0 152 rfl) rfl (w3) (wr_lit rfl) (fun c16 => ?_) (fun c16 => ?_)
                                  · replace h := ite_f h c16
                                    refine j_loc [1, 0] rfl ?_
                                    exact s_Model_next0_L310 (w3) h
                                  · replace h := ite_t h c16
                                    refine j_loc [1, 0] rfl ?_
                                    exact s_Model_next0_L306 (w3) h
            · replace h := ite_f h c5
              refine j_aloadn (k := 1) (D_Model_next0 65 rfl) rfl rfl ?_
              refine j_iconst (v := 0) (D_Model_next0 66 rfl) rfl ?_
              refine j_putI rfl fa_Model_332 kd_81 lc_81 (by decide) rfl (D_Model_next0 67 rfl) ?_
              refine j_gen (fun G3 e8 => ?_)
              replace h := wG_at h e8
              refine j_loc [1] rfl ?_
              exact s_Model_next0_L140 FU h
          · replace h := ite_f h c4
            refine j_loc [1] rfl ?_
            exact s_Model_next0_L76 FU h
        · replace h := ite_t h c3
          refine j_aloadn (k := 1) (D_Model_next0 31 rfl) rfl rfl ?_
          refine j_iconst (v := 0) (D_Model_next0 32 rfl) rfl ?_
          refine j_putI rfl fa_Model_314 kd_81 lc_81 (by decide) rfl (D_Model_next0 33 rfl) ?_
          refine j_gen (fun G4 e9 => ?_)
          replace h := wG_at h e9
          refine j_goto (tgt := 325) (D_Model_next0 34 rfl) rfl ?_
          exact j_vret (D_Model_next0 164 rfl) rfl rfl rfl (leafV h)
      · replace h := ite_t h c2
        refine j_loc [0] rfl ?_
        exact s_Model_next0_L26 ih h
def f_Model_next0 (G : GS) : Option (GS) :=
  f_Model_next0_L0 FU G
theorem c_Model_next0 {X : XT} {G : GS} {r : GS} (h : f_Model_next0 G = some r) : Call X true 11 0 0 M_Model_next0 [rf X 81] NC G (Rv r) := by
  refine Call_of_J cw_Model_next0 (by decide +kernel) (Nat.le_of_ble_eq_true rfl) ?_
  unfold f_Model_next0 at h
  show J X true 11 0 0 M_Model_next0 (Rv r) NC 0 0 0 [(0, rf X 81)] [] G
  refine j_loc [0] rfl ?_
  exact s_Model_next0_L0 FU h
abbrev M_Model_begins : MI := (⟨"InquestHallModel", "begins", "(Z)V"⟩, prog_14_method_47_code, 2, none)
theorem cw_Model_begins : Cond.code M_Model_begins.1 M_Model_begins.2.1 M_Model_begins.2.2.1 M_Model_begins.2.2.2 ∈ TS := mTS (List.mem_of_getElem? (i := 1645) (by decide +kernel)) (by decide +kernel)
theorem fa_Model_335 : FA "InquestHallModel" 335 12 48 false .int := ⟨_, _, _, _, ok_Model, by decide, mTS (List.mem_of_getElem? (i := 1349) (by decide +kernel)) (by decide +kernel), rfl, rfl⟩
theorem fa_Model_381 : FA "InquestHallModel" 381 12 41 false .int := ⟨_, _, _, _, ok_Model, by decide, mTS (List.mem_of_getElem? (i := 1342) (by decide +kernel)) (by decide +kernel), rfl, rfl⟩
theorem fa_Model_350 : FA "InquestHallModel" 350 12 42 false .int := ⟨_, _, _, _, ok_Model, by decide, mTS (List.mem_of_getElem? (i := 1343) (by decide +kernel)) (by decide +kernel), rfl, rfl⟩
theorem lk_Model_344 : Cond.methodLink "InquestHallModel" 344 M_Model_next0.1 ∈ TS := mTS (List.mem_of_getElem? (i := 1646) (by decide +kernel)) (by decide +kernel)
theorem mok_Model_next0 : MOK M_Model_next0 0 := ⟨mTS (List.mem_of_getElem? (i := 1648) (by decide +kernel)) (by decide +kernel), mTS (List.mem_of_getElem? (i := 66) (by decide +kernel)) (by decide +kernel), mTS (List.mem_of_getElem? (i := 139) (by decide +kernel)) (by decide +kernel), cw_Model_next0, ⟨by decide, by decide, by decide +kernel⟩, by decide +kernel, by decide⟩
def tb_Model_begins : List (Nat × Instr × Nat) := [(0, .aload_n 0, 1), (1, .iload_n 1, 1), (2, .putfield 320, 3), (5, .aload_n 0, 1), (6, .iconst 0, 1), (7, .putfield 335, 3), (10, .aload_n 0, 1), (11, .iconst 0, 1), (12, .putfield 229, 3), (15, .aload_n 0, 1), (16, .iconst 0, 1), (17, .putfield 381, 3), (20, .aload_n 0, 1), (21, .iconst 0, 1), (22, .putfield 350, 3), (25, .aload_n 0, 1), (26, .invokevirtual 344, 3), (29, .return_, 1)]
theorem D_Model_begins (i : Nat) {pc len : Nat} {ins : Instr} (hi : tb_Model_begins[i]? = some (pc, ins, len)) : decode M_Model_begins.2.1 pc = .ok (ins, len) := dec_of (by decide +kernel) i hi
def f_Model_begins (G : GS) (a1 : Int) : Option (GS) :=
  gd (a1 = 0 ∨ a1 = 1) <|
  wG (si G 81 53 a1) fun G1 =>
  wG (si G1 81 48 0) fun G2 =>
  wG (si G2 81 44 0) fun G3 =>
  wG (si G3 81 41 0) fun G4 =>
  wG (si G4 81 42 0) fun G5 =>
  (f_Model_next0 G5).bind fun q1 =>
  some q1
theorem c_Model_begins {X : XT} {G : GS} {a1 : Int} {r : GS} (ha1 : wr a1 = a1) (h : f_Model_begins G a1 = some r) : Call X true 12 0 0 M_Model_begins [rf X 81, vi a1] NC G (Rv r) := by
  refine Call_of_J cw_Model_begins (by decide +kernel) (Nat.le_of_ble_eq_true rfl) ?_
  unfold f_Model_begins at h
  show J X true 12 0 0 M_Model_begins (Rv r) NC 0 0 0 [(0, rf X 81), (1, vi a1)] [] G
  refine j_aloadn (k := 0) (D_Model_begins 0 rfl) rfl rfl ?_
  refine j_iloadn (k := 1) (D_Model_begins 1 rfl) rfl rfl ?_
  have g1 := gd_c h
  replace h := gd_s h
  refine j_putZ rfl fa_Model_320 kd_81 lc_81 (by decide) rfl (ha1) g1 (D_Model_begins 2 rfl) ?_
  refine j_gen (fun G1 e1 => ?_)
  replace h := wG_at h e1
  refine j_aloadn (k := 0) (D_Model_begins 3 rfl) rfl rfl ?_
  refine j_iconst (v := 0) (D_Model_begins 4 rfl) rfl ?_
  refine j_putI rfl fa_Model_335 kd_81 lc_81 (by decide) rfl (D_Model_begins 5 rfl) ?_
  refine j_gen (fun G2 e2 => ?_)
  replace h := wG_at h e2
  refine j_aloadn (k := 0) (D_Model_begins 6 rfl) rfl rfl ?_
  refine j_iconst (v := 0) (D_Model_begins 7 rfl) rfl ?_
  refine j_putI rfl fa_Model_229 kd_81 lc_81 (by decide) rfl (D_Model_begins 8 rfl) ?_
  refine j_gen (fun G3 e3 => ?_)
  replace h := wG_at h e3
  refine j_aloadn (k := 0) (D_Model_begins 9 rfl) rfl rfl ?_
  refine j_iconst (v := 0) (D_Model_begins 10 rfl) rfl ?_
  refine j_putI rfl fa_Model_381 kd_81 lc_81 (by decide) rfl (D_Model_begins 11 rfl) ?_
  refine j_gen (fun G4 e4 => ?_)
  replace h := wG_at h e4
  refine j_aloadn (k := 0) (D_Model_begins 12 rfl) rfl rfl ?_
  refine j_iconst (v := 0) (D_Model_begins 13 rfl) rfl ?_
  refine j_putI rfl fa_Model_350 kd_81 lc_81 (by decide) rfl (D_Model_begins 14 rfl) ?_
  refine j_gen (fun G5 e5 => ?_)
  replace h := wG_at h e5
  refine j_aloadn (k := 0) (D_Model_begins 15 rfl) rfl rfl ?_
  obtain ⟨q1, e6, h⟩ := Option.bind_eq_some_iff.mp h
  refine j_cVv (c_Model_next0 e6) rfl lk_Model_344 mok_Model_next0 kd_81 lc_81 rfl (by decide) rfl rfl (Nat.le_of_ble_eq_true rfl) (D_Model_begins 16 rfl) ?_
  exact j_vret (D_Model_begins 17 rfl) rfl rfl rfl (leafV h)
abbrev M_Model_bad : MI := (⟨"InquestHallModel", "bad", "(I)Z"⟩, prog_14_method_32_code, 2, (some .boolean))
theorem cw_Model_bad : Cond.code M_Model_bad.1 M_Model_bad.2.1 M_Model_bad.2.2.1 M_Model_bad.2.2.2 ∈ TS := mTS (List.mem_of_getElem? (i := 1717) (by decide +kernel)) (by decide +kernel)
theorem fa_Model_338 : FA "InquestHallModel" 338 12 49 false .int := ⟨_, _, _, _, ok_Model, by decide, mTS (List.mem_of_getElem? (i := 1350) (by decide +kernel)) (by decide +kernel), rfl, rfl⟩
def tb_Model_bad : List (Nat × Instr × Nat) := [(0, .aload_n 0, 1), (1, .iload_n 1, 1), (2, .putfield 335, 3), (5, .aload_n 0, 1), (6, .aload_n 0, 1), (7, .getfield 232, 3), (10, .putfield 338, 3), (13, .iconst 0, 1), (14, .ireturn, 1)]
theorem D_Model_bad (i : Nat) {pc len : Nat} {ins : Instr} (hi : tb_Model_bad[i]? = some (pc, ins, len)) : decode M_Model_bad.2.1 pc = .ok (ins, len) := dec_of (by decide +kernel) i hi
def f_Model_bad (G : GS) (a1 : Int) : Option (Int × GS) :=
  wG (si G 81 48 a1) fun G1 =>
  wG (si G1 81 49 (gi G1 81 46)) fun G2 =>
  some (0, G2)
theorem c_Model_bad {X : XT} {G : GS} {a1 : Int} {r : Int × GS} (ha1 : wr a1 = a1) (h : f_Model_bad G a1 = some r) : Call X true 6 0 0 M_Model_bad [rf X 81, vi a1] NC G (Rz r.1 r.2) := by
  refine Call_of_J cw_Model_bad (by decide +kernel) (Nat.le_of_ble_eq_true rfl) ?_
  unfold f_Model_bad at h
  show J X true 6 0 0 M_Model_bad (Rz r.1 r.2) NC 0 0 0 [(0, rf X 81), (1, vi a1)] [] G
  refine j_aloadn (k := 0) (D_Model_bad 0 rfl) rfl rfl ?_
  refine j_iloadn (k := 1) (D_Model_bad 1 rfl) rfl rfl ?_
  refine j_putI rfl fa_Model_335 kd_81 lc_81 (by decide) rfl (D_Model_bad 2 rfl) ?_
  refine j_gen (fun G1 e1 => ?_)
  replace h := wG_at h e1
  refine j_aloadn (k := 0) (D_Model_bad 3 rfl) rfl rfl ?_
  refine j_aloadn (k := 0) (D_Model_bad 4 rfl) rfl rfl ?_
  refine j_getI rfl fa_Model_232 kd_81 lc_81 (by decide) rfl (D_Model_bad 5 rfl) ?_
  refine j_putI rfl fa_Model_338 kd_81 lc_81 (by decide) rfl (D_Model_bad 6 rfl) ?_
  refine j_gen (fun G2 e2 => ?_)
  replace h := wG_at h e2
  refine j_iconst (v := 0) (D_Model_bad 7 rfl) rfl ?_
  exact j_zret (D_Model_bad 8 rfl) rfl (wr_lit rfl) (nz_01 (by decide)) rfl rfl (leafZ h (wr_n (wr_lit rfl)) (by decide))
abbrev M_Model_oneOf : MI := (⟨"InquestHallModel", "oneOf", "(II)Z"⟩, prog_14_method_35_code, 3, (some .boolean))
theorem cw_Model_oneOf : Cond.code M_Model_oneOf.1 M_Model_oneOf.2.1 M_Model_oneOf.2.2.1 M_Model_oneOf.2.2.2 ∈ TS := mTS (List.mem_of_getElem? (i := 1725) (by decide +kernel)) (by decide +kernel)
theorem fa_Model_347 : FA "InquestHallModel" 347 12 54 false .int := ⟨_, _, _, _, ok_Model, by decide, mTS (List.mem_of_getElem? (i := 1355) (by decide +kernel)) (by decide +kernel), rfl, rfl⟩
theorem lk_Model_341 : Cond.methodLink "InquestHallModel" 341 M_Model_bad.1 ∈ TS := mTS (List.mem_of_getElem? (i := 1714) (by decide +kernel)) (by decide +kernel)
theorem mok_Model_bad : MOK M_Model_bad 1 := ⟨mTS (List.mem_of_getElem? (i := 1716) (by decide +kernel)) (by decide +kernel), mTS (List.mem_of_getElem? (i := 72) (by decide +kernel)) (by decide +kernel), mTS (List.mem_of_getElem? (i := 139) (by decide +kernel)) (by decide +kernel), cw_Model_bad, ⟨by decide, by decide, by decide +kernel⟩, by decide +kernel, by decide⟩
def tb_Model_oneOf : List (Nat × Instr × Nat) := [(0, .aload_n 0, 1), (1, .getfield 314, 3), (4, .iload_n 1, 1), (5, .iload_n 1, 1), (6, .iload_n 2, 1), (7, .iadd, 1), (8, .iconst 1, 1), (9, .isub, 1), (10, .invokestatic 188, 3), (13, .ifCond .ne 9, 3), (16, .aload_n 0, 1), (17, .iconst 1, 1), (18, .invokevirtual 341, 3), (21, .ireturn, 1), (22, .aload_n 0, 1), (23, .aload_n 0, 1), (24, .getfield 314, 3), (27, .iload_n 1, 1), (28, .isub, 1), (29, .putfield 347, 3), (32, .aload_n 0, 1), (33, .invokevirtual 344, 3), (36, .iconst 1, 1), (37, .ireturn, 1)]
theorem D_Model_oneOf (i : Nat) {pc len : Nat} {ins : Instr} (hi : tb_Model_oneOf[i]? = some (pc, ins, len)) : decode M_Model_oneOf.2.1 pc = .ok (ins, len) := dec_of (by decide +kernel) i hi
def f_Model_oneOf (G : GS) (a1 : Int) (a2 : Int) : Option (Int × GS) :=
  (f_Model_isIn G (gi G 81 45) a1 (wr ((a1 + a2) - 1))).bind fun q1 =>
  if q1 = 0 then
    (f_Model_bad G 1).bind fun q3 =>
    some (q3.1, q3.2)
  else
    wG (si G 81 54 ((gi G 81 45) - a1)) fun G1 =>
    (f_Model_next0 G1).bind fun q2 =>
    some (1, q2)
theorem c_Model_oneOf {X : XT} {G : GS} {a1 : Int} {a2 : Int} {r : Int × GS} (ha1 : wr a1 = a1) (ha2 : wr a2 = a2) (h : f_Model_oneOf G a1 a2 = some r) : Call X true 12 0 0 M_Model_oneOf [rf X 81, vi a1, vi a2] NC G (Rz r.1 r.2) := by
  refine Call_of_J cw_Model_oneOf (by decide +kernel) (Nat.le_of_ble_eq_true rfl) ?_
  unfold f_Model_oneOf at h
  show J X true 12 0 0 M_Model_oneOf (Rz r.1 r.2) NC 0 0 0 [(0, rf X 81), (1, vi a1), (2, vi a2)] [] G
  refine j_aloadn (k := 0) (D_Model_oneOf 0 rfl) rfl rfl ?_
  refine j_getI rfl fa_Model_314 kd_81 lc_81 (by decide) rfl (D_Model_oneOf 1 rfl) ?_
  refine j_iloadn (k := 1) (D_Model_oneOf 2 rfl) rfl rfl ?_
  refine j_iloadn (k := 1) (D_Model_oneOf 3 rfl) rfl rfl ?_
  refine j_iloadn (k := 2) (D_Model_oneOf 4 rfl) rfl rfl ?_
  refine j_iadd (D_Model_oneOf 5 rfl) ?_
  refine j_iconst (v := 1) (D_Model_oneOf 6 rfl) rfl ?_
  refine j_isub (D_Model_oneOf 7 rfl) ?_
  refine j_top0 (rfl) ?_
  obtain ⟨q1, e1, h⟩ := Option.bind_eq_some_iff.mp h
  refine j_cSz (c_Model_isIn (wr_gi _ _ _) (ha1) (wr_wr _) e1) rfl lk_Model_188 sok_Model_isIn (by decide) rfl rfl (Nat.le_of_ble_eq_true rfl) (D_Model_oneOf 8 rfl) (fun w1 bw1 => ?_)
  refine j_if_ne (tgt := 22) (D_Model_oneOf 9 rfl) rfl (w1) (fun c1 => ?_) (fun c1 => ?_)
  · replace h := ite_f h c1
    refine j_aloadn (k := 0) (D_Model_oneOf 14 rfl) rfl rfl ?_
    refine j_aloadn (k := 0) (D_Model_oneOf 15 rfl) rfl rfl ?_
    refine j_getI rfl fa_Model_314 kd_81 lc_81 (by decide) rfl (D_Model_oneOf 16 rfl) ?_
    refine j_iloadn (k := 1) (D_Model_oneOf 17 rfl) rfl rfl ?_
    refine j_isub (D_Model_oneOf 18 rfl) ?_
    refine j_putI rfl fa_Model_347 kd_81 lc_81 (by decide) rfl (D_Model_oneOf 19 rfl) ?_
    refine j_gen (fun G1 e2 => ?_)
    replace h := wG_at h e2
    refine j_aloadn (k := 0) (D_Model_oneOf 20 rfl) rfl rfl ?_
    obtain ⟨q2, e3, h⟩ := Option.bind_eq_some_iff.mp h
    refine j_cVv (c_Model_next0 e3) rfl lk_Model_344 mok_Model_next0 kd_81 lc_81 rfl (by decide) rfl rfl (Nat.le_of_ble_eq_true rfl) (D_Model_oneOf 21 rfl) ?_
    refine j_iconst (v := 1) (D_Model_oneOf 22 rfl) rfl ?_
    exact j_zret (D_Model_oneOf 23 rfl) rfl (wr_lit rfl) (nz_01 (by decide)) rfl rfl (leafZ h (wr_n (wr_lit rfl)) (by decide))
  · replace h := ite_t h c1
    refine j_aloadn (k := 0) (D_Model_oneOf 10 rfl) rfl rfl ?_
    refine j_iconst (v := 1) (D_Model_oneOf 11 rfl) rfl ?_
    obtain ⟨q3, e4, h⟩ := Option.bind_eq_some_iff.mp h
    refine j_cVz (c_Model_bad (wr_lit rfl) e4) rfl lk_Model_341 mok_Model_bad kd_81 lc_81 rfl (by decide) rfl rfl (Nat.le_of_ble_eq_true rfl) (D_Model_oneOf 12 rfl) (fun w2 bw2 => ?_)
    exact j_zret (D_Model_oneOf 13 rfl) rfl (w2) (nz_01 bw2) rfl rfl (leafZ h (wr_n (w2)) bw2)
abbrev M_Model_aNumber : MI := (⟨"InquestHallModel", "aNumber", "(II)Z"⟩, prog_14_method_34_code, 3, (some .boolean))
theorem cw_Model_aNumber : Cond.code M_Model_aNumber.1 M_Model_aNumber.2.1 M_Model_aNumber.2.2.1 M_Model_aNumber.2.2.2 ∈ TS := mTS (List.mem_of_getElem? (i := 1729) (by decide +kernel)) (by decide +kernel)
def tb_Model_aNumber : List (Nat × Instr × Nat) := [(0, .aload_n 0, 1), (1, .getfield 314, 3), (4, .iconst 2, 1), (5, .if_icmp .eq 9, 3), (8, .aload_n 0, 1), (9, .iconst 1, 1), (10, .invokevirtual 341, 3), (13, .ireturn, 1), (14, .aload_n 0, 1), (15, .getfield 332, 3), (18, .iload_n 1, 1), (19, .iload_n 2, 1), (20, .invokestatic 188, 3), (23, .ifCond .ne 9, 3), (26, .aload_n 0, 1), (27, .iconst 2, 1), (28, .invokevirtual 341, 3), (31, .ireturn, 1), (32, .aload_n 0, 1), (33, .aload_n 0, 1), (34, .getfield 332, 3), (37, .putfield 347, 3), (40, .aload_n 0, 1), (41, .invokevirtual 344, 3), (44, .iconst 1, 1), (45, .ireturn, 1)]
theorem D_Model_aNumber (i : Nat) {pc len : Nat} {ins : Instr} (hi : tb_Model_aNumber[i]? = some (pc, ins, len)) : decode M_Model_aNumber.2.1 pc = .ok (ins, len) := dec_of (by decide +kernel) i hi
def f_Model_aNumber (G : GS) (a1 : Int) (a2 : Int) : Option (Int × GS) :=
  if gi G 81 45 = 2 then
    (f_Model_isIn G (gi G 81 47) a1 a2).bind fun q1 =>
    if q1 = 0 then
      (f_Model_bad G 2).bind fun q3 =>
      some (q3.1, q3.2)
    else
      wG (si G 81 54 (gi G 81 47)) fun G1 =>
      (f_Model_next0 G1).bind fun q2 =>
      some (1, q2)
  else
    (f_Model_bad G 1).bind fun q4 =>
    some (q4.1, q4.2)
theorem c_Model_aNumber {X : XT} {G : GS} {a1 : Int} {a2 : Int} {r : Int × GS} (ha1 : wr a1 = a1) (ha2 : wr a2 = a2) (h : f_Model_aNumber G a1 a2 = some r) : Call X true 12 0 0 M_Model_aNumber [rf X 81, vi a1, vi a2] NC G (Rz r.1 r.2) := by
  refine Call_of_J cw_Model_aNumber (by decide +kernel) (Nat.le_of_ble_eq_true rfl) ?_
  unfold f_Model_aNumber at h
  show J X true 12 0 0 M_Model_aNumber (Rz r.1 r.2) NC 0 0 0 [(0, rf X 81), (1, vi a1), (2, vi a2)] [] G
  refine j_aloadn (k := 0) (D_Model_aNumber 0 rfl) rfl rfl ?_
  refine j_getI rfl fa_Model_314 kd_81 lc_81 (by decide) rfl (D_Model_aNumber 1 rfl) ?_
  refine j_iconst (v := 2) (D_Model_aNumber 2 rfl) rfl ?_
  refine j_ic_eq (tgt := 14) (D_Model_aNumber 3 rfl) rfl (wr_gi _ _ _) (wr_lit rfl) (fun c1 => ?_) (fun c1 => ?_)
  · replace h := ite_t h c1
    refine j_aloadn (k := 0) (D_Model_aNumber 8 rfl) rfl rfl ?_
    refine j_getI rfl fa_Model_332 kd_81 lc_81 (by decide) rfl (D_Model_aNumber 9 rfl) ?_
    refine j_iloadn (k := 1) (D_Model_aNumber 10 rfl) rfl rfl ?_
    refine j_iloadn (k := 2) (D_Model_aNumber 11 rfl) rfl rfl ?_
    obtain ⟨q1, e1, h⟩ := Option.bind_eq_some_iff.mp h
    refine j_cSz (c_Model_isIn (wr_gi _ _ _) (ha1) (ha2) e1) rfl lk_Model_188 sok_Model_isIn (by decide) rfl rfl (Nat.le_of_ble_eq_true rfl) (D_Model_aNumber 12 rfl) (fun w1 bw1 => ?_)
    refine j_if_ne (tgt := 32) (D_Model_aNumber 13 rfl) rfl (w1) (fun c2 => ?_) (fun c2 => ?_)
    · replace h := ite_f h c2
      refine j_aloadn (k := 0) (D_Model_aNumber 18 rfl) rfl rfl ?_
      refine j_aloadn (k := 0) (D_Model_aNumber 19 rfl) rfl rfl ?_
      refine j_getI rfl fa_Model_332 kd_81 lc_81 (by decide) rfl (D_Model_aNumber 20 rfl) ?_
      refine j_putI rfl fa_Model_347 kd_81 lc_81 (by decide) rfl (D_Model_aNumber 21 rfl) ?_
      refine j_gen (fun G1 e2 => ?_)
      replace h := wG_at h e2
      refine j_aloadn (k := 0) (D_Model_aNumber 22 rfl) rfl rfl ?_
      obtain ⟨q2, e3, h⟩ := Option.bind_eq_some_iff.mp h
      refine j_cVv (c_Model_next0 e3) rfl lk_Model_344 mok_Model_next0 kd_81 lc_81 rfl (by decide) rfl rfl (Nat.le_of_ble_eq_true rfl) (D_Model_aNumber 23 rfl) ?_
      refine j_iconst (v := 1) (D_Model_aNumber 24 rfl) rfl ?_
      exact j_zret (D_Model_aNumber 25 rfl) rfl (wr_lit rfl) (nz_01 (by decide)) rfl rfl (leafZ h (wr_n (wr_lit rfl)) (by decide))
    · replace h := ite_t h c2
      refine j_aloadn (k := 0) (D_Model_aNumber 14 rfl) rfl rfl ?_
      refine j_iconst (v := 2) (D_Model_aNumber 15 rfl) rfl ?_
      obtain ⟨q3, e4, h⟩ := Option.bind_eq_some_iff.mp h
      refine j_cVz (c_Model_bad (wr_lit rfl) e4) rfl lk_Model_341 mok_Model_bad kd_81 lc_81 rfl (by decide) rfl rfl (Nat.le_of_ble_eq_true rfl) (D_Model_aNumber 16 rfl) (fun w2 bw2 => ?_)
      exact j_zret (D_Model_aNumber 17 rfl) rfl (w2) (nz_01 bw2) rfl rfl (leafZ h (wr_n (w2)) bw2)
  · replace h := ite_f h c1
    refine j_aloadn (k := 0) (D_Model_aNumber 4 rfl) rfl rfl ?_
    refine j_iconst (v := 1) (D_Model_aNumber 5 rfl) rfl ?_
    obtain ⟨q4, e5, h⟩ := Option.bind_eq_some_iff.mp h
    refine j_cVz (c_Model_bad (wr_lit rfl) e5) rfl lk_Model_341 mok_Model_bad kd_81 lc_81 rfl (by decide) rfl rfl (Nat.le_of_ble_eq_true rfl) (D_Model_aNumber 6 rfl) (fun w3 bw3 => ?_)
    exact j_zret (D_Model_aNumber 7 rfl) rfl (w3) (nz_01 bw3) rfl rfl (leafZ h (wr_n (w3)) bw3)
abbrev M_Model_need : MI := (⟨"InquestHallModel", "need", "(I)Z"⟩, prog_14_method_33_code, 2, (some .boolean))
theorem cw_Model_need : Cond.code M_Model_need.1 M_Model_need.2.1 M_Model_need.2.2.1 M_Model_need.2.2.2 ∈ TS := mTS (List.mem_of_getElem? (i := 1737) (by decide +kernel)) (by decide +kernel)
def tb_Model_need : List (Nat × Instr × Nat) := [(0, .aload_n 0, 1), (1, .getfield 314, 3), (4, .iload_n 1, 1), (5, .if_icmp .eq 9, 3), (8, .aload_n 0, 1), (9, .iconst 1, 1), (10, .invokevirtual 341, 3), (13, .ireturn, 1), (14, .aload_n 0, 1), (15, .invokevirtual 344, 3), (18, .iconst 1, 1), (19, .ireturn, 1)]
theorem D_Model_need (i : Nat) {pc len : Nat} {ins : Instr} (hi : tb_Model_need[i]? = some (pc, ins, len)) : decode M_Model_need.2.1 pc = .ok (ins, len) := dec_of (by decide +kernel) i hi
def f_Model_need (G : GS) (a1 : Int) : Option (Int × GS) :=
  if gi G 81 45 = a1 then
    (f_Model_next0 G).bind fun q1 =>
    some (1, q1)
  else
    (f_Model_bad G 1).bind fun q2 =>
    some (q2.1, q2.2)
theorem c_Model_need {X : XT} {G : GS} {a1 : Int} {r : Int × GS} (ha1 : wr a1 = a1) (h : f_Model_need G a1 = some r) : Call X true 12 0 0 M_Model_need [rf X 81, vi a1] NC G (Rz r.1 r.2) := by
  refine Call_of_J cw_Model_need (by decide +kernel) (Nat.le_of_ble_eq_true rfl) ?_
  unfold f_Model_need at h
  show J X true 12 0 0 M_Model_need (Rz r.1 r.2) NC 0 0 0 [(0, rf X 81), (1, vi a1)] [] G
  refine j_aloadn (k := 0) (D_Model_need 0 rfl) rfl rfl ?_
  refine j_getI rfl fa_Model_314 kd_81 lc_81 (by decide) rfl (D_Model_need 1 rfl) ?_
  refine j_iloadn (k := 1) (D_Model_need 2 rfl) rfl rfl ?_
  refine j_ic_eq (tgt := 14) (D_Model_need 3 rfl) rfl (wr_gi _ _ _) (ha1) (fun c1 => ?_) (fun c1 => ?_)
  · replace h := ite_t h c1
    refine j_aloadn (k := 0) (D_Model_need 8 rfl) rfl rfl ?_
    obtain ⟨q1, e1, h⟩ := Option.bind_eq_some_iff.mp h
    refine j_cVv (c_Model_next0 e1) rfl lk_Model_344 mok_Model_next0 kd_81 lc_81 rfl (by decide) rfl rfl (Nat.le_of_ble_eq_true rfl) (D_Model_need 9 rfl) ?_
    refine j_iconst (v := 1) (D_Model_need 10 rfl) rfl ?_
    exact j_zret (D_Model_need 11 rfl) rfl (wr_lit rfl) (nz_01 (by decide)) rfl rfl (leafZ h (wr_n (wr_lit rfl)) (by decide))
  · replace h := ite_f h c1
    refine j_aloadn (k := 0) (D_Model_need 4 rfl) rfl rfl ?_
    refine j_iconst (v := 1) (D_Model_need 5 rfl) rfl ?_
    obtain ⟨q2, e2, h⟩ := Option.bind_eq_some_iff.mp h
    refine j_cVz (c_Model_bad (wr_lit rfl) e2) rfl lk_Model_341 mok_Model_bad kd_81 lc_81 rfl (by decide) rfl rfl (Nat.le_of_ble_eq_true rfl) (D_Model_need 6 rfl) (fun w1 bw1 => ?_)
    exact j_zret (D_Model_need 7 rfl) rfl (w1) (nz_01 bw1) rfl rfl (leafZ h (wr_n (w1)) bw1)
abbrev M_Model_aWard : MI := (⟨"InquestHallModel", "aWard", "()Z"⟩, prog_14_method_44_code, 2, (some .boolean))
theorem cw_Model_aWard : Cond.code M_Model_aWard.1 M_Model_aWard.2.1 M_Model_aWard.2.2.1 M_Model_aWard.2.2.2 ∈ TS := mTS (List.mem_of_getElem? (i := 1733) (by decide +kernel)) (by decide +kernel)
theorem lk_Model_384 : Cond.methodLink "InquestHallModel" 384 M_Model_oneOf.1 ∈ TS := mTS (List.mem_of_getElem? (i := 1722) (by decide +kernel)) (by decide +kernel)
theorem mok_Model_oneOf : MOK M_Model_oneOf 2 := ⟨mTS (List.mem_of_getElem? (i := 1724) (by decide +kernel)) (by decide +kernel), mTS (List.mem_of_getElem? (i := 74) (by decide +kernel)) (by decide +kernel), mTS (List.mem_of_getElem? (i := 139) (by decide +kernel)) (by decide +kernel), cw_Model_oneOf, ⟨by decide, by decide, by decide +kernel⟩, by decide +kernel, by decide⟩
theorem fa_Model_91 : FA "InquestHallModel" 91 12 31 true (.array .int) := ⟨_, _, _, _, ok_Model, by decide, mTS (List.mem_of_getElem? (i := 1332) (by decide +kernel)) (by decide +kernel), rfl, rfl⟩
theorem fx_81_31 {G : GS} (w : WF true NC G) : G.2.2 81 31 = 109 := w.2 rfl (81, 31, 109) (by decide)
theorem kd_109 : kd 109 = (0, 30) := rfl
theorem lc_109 : 109 < NC := by decide
theorem lk_Model_373 : Cond.methodLink "InquestHallModel" 373 M_Model_need.1 ∈ TS := mTS (List.mem_of_getElem? (i := 1734) (by decide +kernel)) (by decide +kernel)
theorem mok_Model_need : MOK M_Model_need 1 := ⟨mTS (List.mem_of_getElem? (i := 1736) (by decide +kernel)) (by decide +kernel), mTS (List.mem_of_getElem? (i := 77) (by decide +kernel)) (by decide +kernel), mTS (List.mem_of_getElem? (i := 139) (by decide +kernel)) (by decide +kernel), cw_Model_need, ⟨by decide, by decide, by decide +kernel⟩, by decide +kernel, by decide⟩
theorem lk_Model_387 : Cond.methodLink "InquestHallModel" 387 M_Model_aNumber.1 ∈ TS := mTS (List.mem_of_getElem? (i := 1726) (by decide +kernel)) (by decide +kernel)
theorem mok_Model_aNumber : MOK M_Model_aNumber 2 := ⟨mTS (List.mem_of_getElem? (i := 1728) (by decide +kernel)) (by decide +kernel), mTS (List.mem_of_getElem? (i := 75) (by decide +kernel)) (by decide +kernel), mTS (List.mem_of_getElem? (i := 139) (by decide +kernel)) (by decide +kernel), cw_Model_aNumber, ⟨by decide, by decide, by decide +kernel⟩, by decide +kernel, by decide⟩
theorem fa_Model_94 : FA "InquestHallModel" 94 12 32 true (.array .int) := ⟨_, _, _, _, ok_Model, by decide, mTS (List.mem_of_getElem? (i := 1333) (by decide +kernel)) (by decide +kernel), rfl, rfl⟩
theorem fx_81_32 {G : GS} (w : WF true NC G) : G.2.2 81 32 = 110 := w.2 rfl (81, 32, 110) (by decide)
theorem kd_110 : kd 110 = (0, 30) := rfl
theorem lc_110 : 110 < NC := by decide
theorem fa_Model_97 : FA "InquestHallModel" 97 12 33 true (.array .int) := ⟨_, _, _, _, ok_Model, by decide, mTS (List.mem_of_getElem? (i := 1334) (by decide +kernel)) (by decide +kernel), rfl, rfl⟩
theorem fx_81_33 {G : GS} (w : WF true NC G) : G.2.2 81 33 = 111 := w.2 rfl (81, 33, 111) (by decide)
theorem kd_111 : kd 111 = (0, 30) := rfl
theorem lc_111 : 111 < NC := by decide
theorem fa_Model_100 : FA "InquestHallModel" 100 12 34 true (.array .int) := ⟨_, _, _, _, ok_Model, by decide, mTS (List.mem_of_getElem? (i := 1335) (by decide +kernel)) (by decide +kernel), rfl, rfl⟩
theorem fx_81_34 {G : GS} (w : WF true NC G) : G.2.2 81 34 = 112 := w.2 rfl (81, 34, 112) (by decide)
theorem kd_112 : kd 112 = (0, 30) := rfl
theorem lc_112 : 112 < NC := by decide
def tb_Model_aWard : List (Nat × Instr × Nat) := [(0, .aload_n 0, 1), (1, .getfield 381, 3), (4, .istore_n 1, 1), (5, .aload_n 0, 1), (6, .sipush 160, 3), (9, .iconst 3, 1), (10, .invokevirtual 384, 3), (13, .ifCond .ne 5, 3), (16, .iconst 0, 1), (17, .ireturn, 1), (18, .aload_n 0, 1), (19, .getfield 91, 3), (22, .iload_n 1, 1), (23, .aload_n 0, 1), (24, .getfield 347, 3), (27, .iastore, 1), (28, .aload_n 0, 1), (29, .bipush 11, 2), (31, .invokevirtual 373, 3), (34, .ifCond .eq 13, 3), (37, .aload_n 0, 1), (38, .iconst 0, 1), (39, .bipush 40, 2), (41, .invokevirtual 387, 3), (44, .ifCond .ne 5, 3), (47, .iconst 0, 1), (48, .ireturn, 1), (49, .aload_n 0, 1), (50, .getfield 94, 3), (53, .iload_n 1, 1), (54, .aload_n 0, 1), (55, .getfield 347, 3), (58, .iastore, 1), (59, .aload_n 0, 1), (60, .getfield 97, 3), (63, .iload_n 1, 1), (64, .aload_n 0, 1), (65, .getfield 347, 3), (68, .iastore, 1), (69, .aload_n 0, 1), (70, .getfield 314, 3), (73, .bipush 12, 2), (75, .if_icmp .ne 29, 3), (78, .aload_n 0, 1), (79, .invokevirtual 344, 3), (82, .aload_n 0, 1), (83, .iconst 0, 1), (84, .bipush 40, 2), (86, .invokevirtual 387, 3), (89, .ifCond .ne 5, 3), (92, .iconst 0, 1), (93, .ireturn, 1), (94, .aload_n 0, 1), (95, .getfield 97, 3), (98, .iload_n 1, 1), (99, .aload_n 0, 1), (100, .getfield 347, 3), (103, .iastore, 1), (104, .aload_n 0, 1), (105, .bipush 13, 2), (107, .invokevirtual 373, 3), (110, .ifCond .ne 5, 3), (113, .iconst 0, 1), (114, .ireturn, 1), (115, .aload_n 0, 1), (116, .getfield 314, 3), (119, .bipush 19, 2), (121, .if_icmp .eq 27, 3), (124, .aload_n 0, 1), (125, .getfield 314, 3), (128, .bipush 9, 2), (130, .if_icmp .eq 18, 3), (133, .aload_n 0, 1), (134, .getfield 314, 3), (137, .bipush 20, 2), (139, .if_icmp .eq 9, 3), (142, .aload_n 0, 1), (143, .iconst 1, 1), (144, .invokevirtual 341, 3), (147, .ireturn, 1), (148, .aload_n 0, 1), (149, .getfield 100, 3), (152, .iload_n 1, 1), (153, .aload_n 0, 1), (154, .getfield 314, 3), (157, .bipush 19, 2), (159, .if_icmp .ne 7, 3), (162, .iconst 0, 1), (163, .goto 17, 3), (166, .aload_n 0, 1), (167, .getfield 314, 3), (170, .bipush 9, 2), (172, .if_icmp .ne 7, 3), (175, .iconst 1, 1), (176, .goto 4, 3), (179, .iconst 2, 1), (180, .iastore, 1), (181, .aload_n 0, 1), (182, .invokevirtual 344, 3), (185, .iconst 1, 1), (186, .ireturn, 1)]
theorem D_Model_aWard (i : Nat) {pc len : Nat} {ins : Instr} (hi : tb_Model_aWard[i]? = some (pc, ins, len)) : decode M_Model_aWard.2.1 pc = .ok (ins, len) := dec_of (by decide +kernel) i hi
def f_Model_aWard_L180 (G : GS) (s0 : Int) (s1 : Int) : Option (Int × GS) :=
  gd (0 ≤ s1 ∧ s1 < 30) <|
  wG (si G 112 s1.toNat s0) fun G1 =>
  (f_Model_next0 G1).bind fun q1 =>
  some (1, q1)
theorem s_Model_aWard_L180 {X : XT} {r : Int × GS} : ∀ {G : GS} {s0 : Int} {s1 : Int}, wr s0 = s0 → wr s1 = s1 → f_Model_aWard_L180 G s0 s1 = some r → J X true 13 0 0 M_Model_aWard (Rz r.1 r.2) NC 0 0 180 [(0, rf X 81)] [vi s0, vi s1, rf X 112] G := by
  intro G s0 s1 hs0 hs1 h
  unfold f_Model_aWard_L180 at h
  have g1 := gd_c h
  replace h := gd_s h
  refine j_iast (NI := 30) (D_Model_aWard 96 rfl) kd_112 lc_112 (hs1) rfl g1.1 g1.2 ?_
  refine j_gen (fun G1 e1 => ?_)
  replace h := wG_at h e1
  refine j_aloadn (k := 0) (D_Model_aWard 97 rfl) rfl rfl ?_
  obtain ⟨q1, e2, h⟩ := Option.bind_eq_some_iff.mp h
  refine j_cVv (c_Model_next0 e2) rfl lk_Model_344 mok_Model_next0 kd_81 lc_81 rfl (by decide) rfl rfl (Nat.le_of_ble_eq_true rfl) (D_Model_aWard 98 rfl) ?_
  refine j_iconst (v := 1) (D_Model_aWard 99 rfl) rfl ?_
  exact j_zret (D_Model_aWard 100 rfl) rfl (wr_lit rfl) (nz_01 (by decide)) rfl rfl (leafZ h (wr_n (wr_lit rfl)) (by decide))
def f_Model_aWard_L148 (G : GS) (x1 : Int) : Option (Int × GS) :=
  if gi G 81 45 = 19 then
    f_Model_aWard_L180 G 0 x1
  else
    if gi G 81 45 = 9 then
      f_Model_aWard_L180 G 1 x1
    else
      f_Model_aWard_L180 G 2 x1
theorem s_Model_aWard_L148 {X : XT} {r : Int × GS} : ∀ {G : GS} {x1 : Int}, wr x1 = x1 → f_Model_aWard_L148 G x1 = some r → J X true 13 0 0 M_Model_aWard (Rz r.1 r.2) NC 0 0 148 [(0, rf X 81), (1, vi x1)] [] G := by
  intro G x1 hx1 h
  unfold f_Model_aWard_L148 at h
  refine j_aloadn (k := 0) (D_Model_aWard 80 rfl) rfl rfl ?_
  refine j_getR rfl fa_Model_100 kd_81 lc_81 (by decide) rfl fx_81_34 (by decide) (D_Model_aWard 81 rfl) ?_
  refine j_iloadn (k := 1) (D_Model_aWard 82 rfl) rfl rfl ?_
  refine j_aloadn (k := 0) (D_Model_aWard 83 rfl) rfl rfl ?_
  refine j_getI rfl fa_Model_314 kd_81 lc_81 (by decide) rfl (D_Model_aWard 84 rfl) ?_
  refine j_bipush (v := 19) (D_Model_aWard 85 rfl) rfl ?_
  refine j_ic_ne (tgt := 166) (D_Model_aWard 86 rfl) rfl (wr_gi _ _ _) (wr_lit rfl) (fun c1 => ?_) (fun c1 => ?_)
  · replace h := ite_f h c1
    refine j_aloadn (k := 0) (D_Model_aWard 89 rfl) rfl rfl ?_
    refine j_getI rfl fa_Model_314 kd_81 lc_81 (by decide) rfl (D_Model_aWard 90 rfl) ?_
    refine j_bipush (v := 9) (D_Model_aWard 91 rfl) rfl ?_
    refine j_ic_ne (tgt := 179) (D_Model_aWard 92 rfl) rfl (wr_gi _ _ _) (wr_lit rfl) (fun c2 => ?_) (fun c2 => ?_)
    · replace h := ite_f h c2
      refine j_iconst (v := 2) (D_Model_aWard 95 rfl) rfl ?_
      refine j_loc [0] rfl ?_
      exact s_Model_aWard_L180 (wr_lit rfl) (hx1) h
    · replace h := ite_t h c2
      refine j_iconst (v := 1) (D_Model_aWard 93 rfl) rfl ?_
      refine j_goto (tgt := 180) (D_Model_aWard 94 rfl) rfl ?_
      refine j_loc [0] rfl ?_
      exact s_Model_aWard_L180 (wr_lit rfl) (hx1) h
  · replace h := ite_t h c1
    refine j_iconst (v := 0) (D_Model_aWard 87 rfl) rfl ?_
    refine j_goto (tgt := 180) (D_Model_aWard 88 rfl) rfl ?_
    refine j_loc [0] rfl ?_
    exact s_Model_aWard_L180 (wr_lit rfl) (hx1) h
def f_Model_aWard_L104 (G : GS) (x1 : Int) : Option (Int × GS) :=
  (f_Model_need G 13).bind fun q1 =>
  if q1.1 = 0 then
    some (0, q1.2)
  else
    if gi q1.2 81 45 = 19 then
      f_Model_aWard_L148 q1.2 x1
    else
      if gi q1.2 81 45 = 9 then
        f_Model_aWard_L148 q1.2 x1
      else
        if gi q1.2 81 45 = 20 then
          f_Model_aWard_L148 q1.2 x1
        else
          (f_Model_bad q1.2 1).bind fun q2 =>
          some (q2.1, q2.2)
theorem s_Model_aWard_L104 {X : XT} {r : Int × GS} : ∀ {G : GS} {x1 : Int}, wr x1 = x1 → f_Model_aWard_L104 G x1 = some r → J X true 13 0 0 M_Model_aWard (Rz r.1 r.2) NC 0 0 104 [(0, rf X 81), (1, vi x1)] [] G := by
  intro G x1 hx1 h
  unfold f_Model_aWard_L104 at h
  refine j_aloadn (k := 0) (D_Model_aWard 58 rfl) rfl rfl ?_
  refine j_bipush (v := 13) (D_Model_aWard 59 rfl) rfl ?_
  obtain ⟨q1, e1, h⟩ := Option.bind_eq_some_iff.mp h
  refine j_cVz (c_Model_need (wr_lit rfl) e1) rfl lk_Model_373 mok_Model_need kd_81 lc_81 rfl (by decide) rfl rfl (Nat.le_of_ble_eq_true rfl) (D_Model_aWard 60 rfl) (fun w1 bw1 => ?_)
  refine j_if_ne (tgt := 115) (D_Model_aWard 61 rfl) rfl (w1) (fun c1 => ?_) (fun c1 => ?_)
  · replace h := ite_f h c1
    refine j_aloadn (k := 0) (D_Model_aWard 64 rfl) rfl rfl ?_
    refine j_getI rfl fa_Model_314 kd_81 lc_81 (by decide) rfl (D_Model_aWard 65 rfl) ?_
    refine j_bipush (v := 19) (D_Model_aWard 66 rfl) rfl ?_
    refine j_ic_eq (tgt := 148) (D_Model_aWard 67 rfl) rfl (wr_gi _ _ _) (wr_lit rfl) (fun c2 => ?_) (fun c2 => ?_)
    · replace h := ite_t h c2
      refine j_loc [0, 1] rfl ?_
      exact s_Model_aWard_L148 (hx1) h
    · replace h := ite_f h c2
      refine j_aloadn (k := 0) (D_Model_aWard 68 rfl) rfl rfl ?_
      refine j_getI rfl fa_Model_314 kd_81 lc_81 (by decide) rfl (D_Model_aWard 69 rfl) ?_
      refine j_bipush (v := 9) (D_Model_aWard 70 rfl) rfl ?_
      refine j_ic_eq (tgt := 148) (D_Model_aWard 71 rfl) rfl (wr_gi _ _ _) (wr_lit rfl) (fun c3 => ?_) (fun c3 => ?_)
      · replace h := ite_t h c3
        refine j_loc [0, 1] rfl ?_
        exact s_Model_aWard_L148 (hx1) h
      · replace h := ite_f h c3
        refine j_aloadn (k := 0) (D_Model_aWard 72 rfl) rfl rfl ?_
        refine j_getI rfl fa_Model_314 kd_81 lc_81 (by decide) rfl (D_Model_aWard 73 rfl) ?_
        refine j_bipush (v := 20) (D_Model_aWard 74 rfl) rfl ?_
        refine j_ic_eq (tgt := 148) (D_Model_aWard 75 rfl) rfl (wr_gi _ _ _) (wr_lit rfl) (fun c4 => ?_) (fun c4 => ?_)
        · replace h := ite_t h c4
          refine j_loc [0, 1] rfl ?_
          exact s_Model_aWard_L148 (hx1) h
        · replace h := ite_f h c4
          refine j_aloadn (k := 0) (D_Model_aWard 76 rfl) rfl rfl ?_
          refine j_iconst (v := 1) (D_Model_aWard 77 rfl) rfl ?_
          obtain ⟨q2, e2, h⟩ := Option.bind_eq_some_iff.mp h
          refine j_cVz (c_Model_bad (wr_lit rfl) e2) rfl lk_Model_341 mok_Model_bad kd_81 lc_81 rfl (by decide) rfl rfl (Nat.le_of_ble_eq_true rfl) (D_Model_aWard 78 rfl) (fun w2 bw2 => ?_)
          exact j_zret (D_Model_aWard 79 rfl) rfl (w2) (nz_01 bw2) rfl rfl (leafZ h (wr_n (w2)) bw2)
  · replace h := ite_t h c1
    refine j_iconst (v := 0) (D_Model_aWard 62 rfl) rfl ?_
    exact j_zret (D_Model_aWard 63 rfl) rfl (wr_lit rfl) (nz_01 (by decide)) rfl rfl (leafZ h (wr_n (wr_lit rfl)) (by decide))
def f_Model_aWard (G : GS) : Option (Int × GS) :=
  (f_Model_oneOf G 160 3).bind fun q1 =>
  if q1.1 = 0 then
    some (0, q1.2)
  else
    gd (0 ≤ gi G 81 41 ∧ gi G 81 41 < 30) <|
    wG (si q1.2 109 (gi G 81 41).toNat (gi q1.2 81 54)) fun G1 =>
    (f_Model_need G1 11).bind fun q2 =>
    if q2.1 = 0 then
      some (0, q2.2)
    else
      (f_Model_aNumber q2.2 0 40).bind fun q3 =>
      if q3.1 = 0 then
        some (0, q3.2)
      else
        gd (0 ≤ gi G 81 41 ∧ gi G 81 41 < 30) <|
        wG (si q3.2 110 (gi G 81 41).toNat (gi q3.2 81 54)) fun G2 =>
        gd (0 ≤ gi G 81 41 ∧ gi G 81 41 < 30) <|
        wG (si G2 111 (gi G 81 41).toNat (gi G2 81 54)) fun G3 =>
        if gi G3 81 45 = 12 then
          (f_Model_next0 G3).bind fun q4 =>
          (f_Model_aNumber q4 0 40).bind fun q5 =>
          if q5.1 = 0 then
            some (0, q5.2)
          else
            gd (0 ≤ gi G 81 41 ∧ gi G 81 41 < 30) <|
            wG (si q5.2 111 (gi G 81 41).toNat (gi q5.2 81 54)) fun G4 =>
            f_Model_aWard_L104 G4 (gi G 81 41)
        else
          f_Model_aWard_L104 G3 (gi G 81 41)
theorem c_Model_aWard {X : XT} {G : GS} {r : Int × GS} (h : f_Model_aWard G = some r) : Call X true 13 0 0 M_Model_aWard [rf X 81] NC G (Rz r.1 r.2) := by
  refine Call_of_J cw_Model_aWard (by decide +kernel) (Nat.le_of_ble_eq_true rfl) ?_
  unfold f_Model_aWard at h
  show J X true 13 0 0 M_Model_aWard (Rz r.1 r.2) NC 0 0 0 [(0, rf X 81)] [] G
  refine j_aloadn (k := 0) (D_Model_aWard 0 rfl) rfl rfl ?_
  refine j_getI rfl fa_Model_381 kd_81 lc_81 (by decide) rfl (D_Model_aWard 1 rfl) ?_
  refine j_istoren (L' := [(1, vi (gi G 81 41)), (0, rf X 81)]) (D_Model_aWard 2 rfl) rfl (wr_gi _ _ _) (by decide) rfl ?_
  refine j_aloadn (k := 1) (D_Model_aWard 3 rfl) rfl rfl ?_
  refine j_sipush (v := 160) (D_Model_aWard 4 rfl) rfl ?_
  refine j_iconst (v := 3) (D_Model_aWard 5 rfl) rfl ?_
  obtain ⟨q1, e1, h⟩ := Option.bind_eq_some_iff.mp h
  refine j_cVz (c_Model_oneOf (wr_lit rfl) (wr_lit rfl) e1) rfl lk_Model_384 mok_Model_oneOf kd_81 lc_81 rfl (by decide) rfl rfl (Nat.le_of_ble_eq_true rfl) (D_Model_aWard 6 rfl) (fun w1 bw1 => ?_)
  refine j_if_ne (tgt := 18) (D_Model_aWard 7 rfl) rfl (w1) (fun c1 => ?_) (fun c1 => ?_)
  · replace h := ite_f h c1
    refine j_aloadn (k := 1) (D_Model_aWard 10 rfl) rfl rfl ?_
    refine j_getR rfl fa_Model_91 kd_81 lc_81 (by decide) rfl fx_81_31 (by decide) (D_Model_aWard 11 rfl) ?_
    refine j_iloadn (k := 0) (D_Model_aWard 12 rfl) rfl rfl ?_
    refine j_aloadn (k := 1) (D_Model_aWard 13 rfl) rfl rfl ?_
    refine j_getI rfl fa_Model_347 kd_81 lc_81 (by decide) rfl (D_Model_aWard 14 rfl) ?_
    have g1 := gd_c h
    replace h := gd_s h
    refine j_iast (NI := 30) (D_Model_aWard 15 rfl) kd_109 lc_109 (wr_gi _ _ _) rfl g1.1 g1.2 ?_
    refine j_gen (fun G1 e2 => ?_)
    replace h := wG_at h e2
    refine j_aloadn (k := 1) (D_Model_aWard 16 rfl) rfl rfl ?_
    refine j_bipush (v := 11) (D_Model_aWard 17 rfl) rfl ?_
    obtain ⟨q2, e3, h⟩ := Option.bind_eq_some_iff.mp h
    refine j_cVz (c_Model_need (wr_lit rfl) e3) rfl lk_Model_373 mok_Model_need kd_81 lc_81 rfl (by decide) rfl rfl (Nat.le_of_ble_eq_true rfl) (D_Model_aWard 18 rfl) (fun w2 bw2 => ?_)
    refine j_if_eq (tgt := 47) (D_Model_aWard 19 rfl) rfl (w2) (fun c2 => ?_) (fun c2 => ?_)
    · replace h := ite_t h c2
      refine j_iconst (v := 0) (D_Model_aWard 25 rfl) rfl ?_
      exact j_zret (D_Model_aWard 26 rfl) rfl (wr_lit rfl) (nz_01 (by decide)) rfl rfl (leafZ h (wr_n (wr_lit rfl)) (by decide))
    · replace h := ite_f h c2
      refine j_aloadn (k := 1) (D_Model_aWard 20 rfl) rfl rfl ?_
      refine j_iconst (v := 0) (D_Model_aWard 21 rfl) rfl ?_
      refine j_bipush (v := 40) (D_Model_aWard 22 rfl) rfl ?_
      obtain ⟨q3, e4, h⟩ := Option.bind_eq_some_iff.mp h
      refine j_cVz (c_Model_aNumber (wr_lit rfl) (wr_lit rfl) e4) rfl lk_Model_387 mok_Model_aNumber kd_81 lc_81 rfl (by decide) rfl rfl (Nat.le_of_ble_eq_true rfl) (D_Model_aWard 23 rfl) (fun w3 bw3 => ?_)
      refine j_if_ne (tgt := 49) (D_Model_aWard 24 rfl) rfl (w3) (fun c3 => ?_) (fun c3 => ?_)
      · replace h := ite_f h c3
        refine j_aloadn (k := 1) (D_Model_aWard 27 rfl) rfl rfl ?_
        refine j_getR rfl fa_Model_94 kd_81 lc_81 (by decide) rfl fx_81_32 (by decide) (D_Model_aWard 28 rfl) ?_
        refine j_iloadn (k := 0) (D_Model_aWard 29 rfl) rfl rfl ?_
        refine j_aloadn (k := 1) (D_Model_aWard 30 rfl) rfl rfl ?_
        refine j_getI rfl fa_Model_347 kd_81 lc_81 (by decide) rfl (D_Model_aWard 31 rfl) ?_
        have g2 := gd_c h
        replace h := gd_s h
        refine j_iast (NI := 30) (D_Model_aWard 32 rfl) kd_110 lc_110 (wr_gi _ _ _) rfl g2.1 g2.2 ?_
        refine j_gen (fun G2 e5 => ?_)
        replace h := wG_at h e5
        refine j_aloadn (k := 1) (D_Model_aWard 33 rfl) rfl rfl ?_
        refine j_getR rfl fa_Model_97 kd_81 lc_81 (by decide) rfl fx_81_33 (by decide) (D_Model_aWard 34 rfl) ?_
        refine j_iloadn (k := 0) (D_Model_aWard 35 rfl) rfl rfl ?_
        refine j_aloadn (k := 1) (D_Model_aWard 36 rfl) rfl rfl ?_
        refine j_getI rfl fa_Model_347 kd_81 lc_81 (by decide) rfl (D_Model_aWard 37 rfl) ?_
        have g3 := gd_c h
        replace h := gd_s h
        refine j_iast (NI := 30) (D_Model_aWard 38 rfl) kd_111 lc_111 (wr_gi _ _ _) rfl g3.1 g3.2 ?_
        refine j_gen (fun G3 e6 => ?_)
        replace h := wG_at h e6
        refine j_aloadn (k := 1) (D_Model_aWard 39 rfl) rfl rfl ?_
        refine j_getI rfl fa_Model_314 kd_81 lc_81 (by decide) rfl (D_Model_aWard 40 rfl) ?_
        refine j_bipush (v := 12) (D_Model_aWard 41 rfl) rfl ?_
        refine j_ic_ne (tgt := 104) (D_Model_aWard 42 rfl) rfl (wr_gi _ _ _) (wr_lit rfl) (fun c4 => ?_) (fun c4 => ?_)
        · replace h := ite_f h c4
          refine j_loc [1, 0] rfl ?_
          exact s_Model_aWard_L104 (wr_gi _ _ _) h
        · replace h := ite_t h c4
          refine j_aloadn (k := 1) (D_Model_aWard 43 rfl) rfl rfl ?_
          obtain ⟨q4, e7, h⟩ := Option.bind_eq_some_iff.mp h
          refine j_cVv (c_Model_next0 e7) rfl lk_Model_344 mok_Model_next0 kd_81 lc_81 rfl (by decide) rfl rfl (Nat.le_of_ble_eq_true rfl) (D_Model_aWard 44 rfl) ?_
          refine j_aloadn (k := 1) (D_Model_aWard 45 rfl) rfl rfl ?_
          refine j_iconst (v := 0) (D_Model_aWard 46 rfl) rfl ?_
          refine j_bipush (v := 40) (D_Model_aWard 47 rfl) rfl ?_
          obtain ⟨q5, e8, h⟩ := Option.bind_eq_some_iff.mp h
          refine j_cVz (c_Model_aNumber (wr_lit rfl) (wr_lit rfl) e8) rfl lk_Model_387 mok_Model_aNumber kd_81 lc_81 rfl (by decide) rfl rfl (Nat.le_of_ble_eq_true rfl) (D_Model_aWard 48 rfl) (fun w4 bw4 => ?_)
          refine j_if_ne (tgt := 94) (D_Model_aWard 49 rfl) rfl (w4) (fun c5 => ?_) (fun c5 => ?_)
          · replace h := ite_f h c5
            refine j_aloadn (k := 1) (D_Model_aWard 52 rfl) rfl rfl ?_
            refine j_getR rfl fa_Model_97 kd_81 lc_81 (by decide) rfl fx_81_33 (by decide) (D_Model_aWard 53 rfl) ?_
            refine j_iloadn (k := 0) (D_Model_aWard 54 rfl) rfl rfl ?_
            refine j_aloadn (k := 1) (D_Model_aWard 55 rfl) rfl rfl ?_
            refine j_getI rfl fa_Model_347 kd_81 lc_81 (by decide) rfl (D_Model_aWard 56 rfl) ?_
            have g4 := gd_c h
            replace h := gd_s h
            refine j_iast (NI := 30) (D_Model_aWard 57 rfl) kd_111 lc_111 (wr_gi _ _ _) rfl g4.1 g4.2 ?_
            refine j_gen (fun G4 e9 => ?_)
            replace h := wG_at h e9
            refine j_loc [1, 0] rfl ?_
            exact s_Model_aWard_L104 (wr_gi _ _ _) h
          · replace h := ite_t h c5
            refine j_iconst (v := 0) (D_Model_aWard 50 rfl) rfl ?_
            exact j_zret (D_Model_aWard 51 rfl) rfl (wr_lit rfl) (nz_01 (by decide)) rfl rfl (leafZ h (wr_n (wr_lit rfl)) (by decide))
      · replace h := ite_t h c3
        refine j_iconst (v := 0) (D_Model_aWard 25 rfl) rfl ?_
        exact j_zret (D_Model_aWard 26 rfl) rfl (wr_lit rfl) (nz_01 (by decide)) rfl rfl (leafZ h (wr_n (wr_lit rfl)) (by decide))
  · replace h := ite_t h c1
    refine j_iconst (v := 0) (D_Model_aWard 8 rfl) rfl ?_
    exact j_zret (D_Model_aWard 9 rfl) rfl (wr_lit rfl) (nz_01 (by decide)) rfl rfl (leafZ h (wr_n (wr_lit rfl)) (by decide))
abbrev M_Model_opens : MI := (⟨"InquestHallModel", "opens", "()Z"⟩, prog_14_method_37_code, 1, (some .boolean))
theorem cw_Model_opens : Cond.code M_Model_opens.1 M_Model_opens.2.1 M_Model_opens.2.2.1 M_Model_opens.2.2.2 ∈ TS := mTS (List.mem_of_getElem? (i := 1754) (by decide +kernel)) (by decide +kernel)
theorem fa_Model_353 : FA "InquestHallModel" 353 12 51 false .int := ⟨_, _, _, _, ok_Model, by decide, mTS (List.mem_of_getElem? (i := 1352) (by decide +kernel)) (by decide +kernel), rfl, rfl⟩
def tb_Model_opens : List (Nat × Instr × Nat) := [(0, .aload_n 0, 1), (1, .getfield 353, 3), (4, .bipush 8, 2), (6, .if_icmp .ne 9, 3), (9, .aload_n 0, 1), (10, .iconst 3, 1), (11, .invokevirtual 341, 3), (14, .ireturn, 1), (15, .aload_n 0, 1), (16, .dup, 1), (17, .getfield 353, 3), (20, .iconst 1, 1), (21, .iadd, 1), (22, .putfield 353, 3), (25, .aload_n 0, 1), (26, .invokevirtual 344, 3), (29, .iconst 1, 1), (30, .ireturn, 1)]
theorem D_Model_opens (i : Nat) {pc len : Nat} {ins : Instr} (hi : tb_Model_opens[i]? = some (pc, ins, len)) : decode M_Model_opens.2.1 pc = .ok (ins, len) := dec_of (by decide +kernel) i hi
def f_Model_opens (G : GS) : Option (Int × GS) :=
  if gi G 81 51 = 8 then
    (f_Model_bad G 3).bind fun q2 =>
    some (q2.1, q2.2)
  else
    wG (si G 81 51 ((gi G 81 51) + 1)) fun G1 =>
    (f_Model_next0 G1).bind fun q1 =>
    some (1, q1)
theorem c_Model_opens {X : XT} {G : GS} {r : Int × GS} (h : f_Model_opens G = some r) : Call X true 12 0 0 M_Model_opens [rf X 81] NC G (Rz r.1 r.2) := by
  refine Call_of_J cw_Model_opens (by decide +kernel) (Nat.le_of_ble_eq_true rfl) ?_
  unfold f_Model_opens at h
  show J X true 12 0 0 M_Model_opens (Rz r.1 r.2) NC 0 0 0 [(0, rf X 81)] [] G
  refine j_aloadn (k := 0) (D_Model_opens 0 rfl) rfl rfl ?_
  refine j_getI rfl fa_Model_353 kd_81 lc_81 (by decide) rfl (D_Model_opens 1 rfl) ?_
  refine j_bipush (v := 8) (D_Model_opens 2 rfl) rfl ?_
  refine j_ic_ne (tgt := 15) (D_Model_opens 3 rfl) rfl (wr_gi _ _ _) (wr_lit rfl) (fun c1 => ?_) (fun c1 => ?_)
  · replace h := ite_f h c1
    refine j_aloadn (k := 0) (D_Model_opens 8 rfl) rfl rfl ?_
    refine j_dup (D_Model_opens 9 rfl) rfl ?_
    refine j_getI rfl fa_Model_353 kd_81 lc_81 (by decide) rfl (D_Model_opens 10 rfl) ?_
    refine j_iconst (v := 1) (D_Model_opens 11 rfl) rfl ?_
    refine j_iadd (D_Model_opens 12 rfl) ?_
    refine j_putI rfl fa_Model_353 kd_81 lc_81 (by decide) rfl (D_Model_opens 13 rfl) ?_
    refine j_gen (fun G1 e1 => ?_)
    replace h := wG_at h e1
    refine j_aloadn (k := 0) (D_Model_opens 14 rfl) rfl rfl ?_
    obtain ⟨q1, e2, h⟩ := Option.bind_eq_some_iff.mp h
    refine j_cVv (c_Model_next0 e2) rfl lk_Model_344 mok_Model_next0 kd_81 lc_81 rfl (by decide) rfl rfl (Nat.le_of_ble_eq_true rfl) (D_Model_opens 15 rfl) ?_
    refine j_iconst (v := 1) (D_Model_opens 16 rfl) rfl ?_
    exact j_zret (D_Model_opens 17 rfl) rfl (wr_lit rfl) (nz_01 (by decide)) rfl rfl (leafZ h (wr_n (wr_lit rfl)) (by decide))
  · replace h := ite_t h c1
    refine j_aloadn (k := 0) (D_Model_opens 4 rfl) rfl rfl ?_
    refine j_iconst (v := 3) (D_Model_opens 5 rfl) rfl ?_
    obtain ⟨q2, e3, h⟩ := Option.bind_eq_some_iff.mp h
    refine j_cVz (c_Model_bad (wr_lit rfl) e3) rfl lk_Model_341 mok_Model_bad kd_81 lc_81 rfl (by decide) rfl rfl (Nat.le_of_ble_eq_true rfl) (D_Model_opens 6 rfl) (fun w1 bw1 => ?_)
    exact j_zret (D_Model_opens 7 rfl) rfl (w1) (nz_01 bw1) rfl rfl (leafZ h (wr_n (w1)) bw1)
abbrev M_Model_lay : MI := (⟨"InquestHallModel", "lay", "(II)V"⟩, prog_14_method_36_code, 3, none)
theorem cw_Model_lay : Cond.code M_Model_lay.1 M_Model_lay.2.1 M_Model_lay.2.2.1 M_Model_lay.2.2.2 ∈ TS := mTS (List.mem_of_getElem? (i := 1758) (by decide +kernel)) (by decide +kernel)
theorem fa_Model_112 : FA "InquestHallModel" 112 12 38 true (.array .int) := ⟨_, _, _, _, ok_Model, by decide, mTS (List.mem_of_getElem? (i := 1339) (by decide +kernel)) (by decide +kernel), rfl, rfl⟩
theorem fx_81_38 {G : GS} (w : WF true NC G) : G.2.2 81 38 = 116 := w.2 rfl (81, 38, 116) (by decide)
theorem kd_116 : kd 116 = (0, 1620) := rfl
theorem lc_116 : 116 < NC := by decide
def tb_Model_lay : List (Nat × Instr × Nat) := [(0, .aload_n 0, 1), (1, .getfield 112, 3), (4, .iconst 2, 1), (5, .aload_n 0, 1), (6, .getfield 350, 3), (9, .imul, 1), (10, .iload_n 1, 1), (11, .iastore, 1), (12, .aload_n 0, 1), (13, .getfield 112, 3), (16, .iconst 2, 1), (17, .aload_n 0, 1), (18, .getfield 350, 3), (21, .imul, 1), (22, .iconst 1, 1), (23, .iadd, 1), (24, .iload_n 2, 1), (25, .iastore, 1), (26, .aload_n 0, 1), (27, .dup, 1), (28, .getfield 350, 3), (31, .iconst 1, 1), (32, .iadd, 1), (33, .putfield 350, 3), (36, .return_, 1)]
theorem D_Model_lay (i : Nat) {pc len : Nat} {ins : Instr} (hi : tb_Model_lay[i]? = some (pc, ins, len)) : decode M_Model_lay.2.1 pc = .ok (ins, len) := dec_of (by decide +kernel) i hi
def f_Model_lay (G : GS) (a1 : Int) (a2 : Int) : Option (GS) :=
  gd (0 ≤ wr (2 * (gi G 81 42)) ∧ wr (2 * (gi G 81 42)) < 1620) <|
  wG (si G 116 (wr (2 * (gi G 81 42))).toNat a1) fun G1 =>
  gd (0 ≤ wr ((2 * (gi G1 81 42)) + 1) ∧ wr ((2 * (gi G1 81 42)) + 1) < 1620) <|
  wG (si G1 116 (wr ((2 * (gi G1 81 42)) + 1)).toNat a2) fun G2 =>
  wG (si G2 81 42 ((gi G2 81 42) + 1)) fun G3 =>
  some G3
theorem c_Model_lay {X : XT} {G : GS} {a1 : Int} {a2 : Int} {r : GS} (ha1 : wr a1 = a1) (ha2 : wr a2 = a2) (h : f_Model_lay G a1 a2 = some r) : Call X true 6 0 0 M_Model_lay [rf X 81, vi a1, vi a2] NC G (Rv r) := by
  refine Call_of_J cw_Model_lay (by decide +kernel) (Nat.le_of_ble_eq_true rfl) ?_
  unfold f_Model_lay at h
  show J X true 6 0 0 M_Model_lay (Rv r) NC 0 0 0 [(0, rf X 81), (1, vi a1), (2, vi a2)] [] G
  refine j_aloadn (k := 0) (D_Model_lay 0 rfl) rfl rfl ?_
  refine j_getR rfl fa_Model_112 kd_81 lc_81 (by decide) rfl fx_81_38 (by decide) (D_Model_lay 1 rfl) ?_
  refine j_iconst (v := 2) (D_Model_lay 2 rfl) rfl ?_
  refine j_aloadn (k := 0) (D_Model_lay 3 rfl) rfl rfl ?_
  refine j_getI rfl fa_Model_350 kd_81 lc_81 (by decide) rfl (D_Model_lay 4 rfl) ?_
  refine j_imul (D_Model_lay 5 rfl) ?_
  refine j_iloadn (k := 1) (D_Model_lay 6 rfl) rfl rfl ?_
  have g1 := gd_c h
  replace h := gd_s h
  refine j_iast (NI := 1620) (D_Model_lay 7 rfl) kd_116 lc_116 (rfl) rfl g1.1 g1.2 ?_
  refine j_gen (fun G1 e1 => ?_)
  replace h := wG_at h e1
  refine j_aloadn (k := 0) (D_Model_lay 8 rfl) rfl rfl ?_
  refine j_getR rfl fa_Model_112 kd_81 lc_81 (by decide) rfl fx_81_38 (by decide) (D_Model_lay 9 rfl) ?_
  refine j_iconst (v := 2) (D_Model_lay 10 rfl) rfl ?_
  refine j_aloadn (k := 0) (D_Model_lay 11 rfl) rfl rfl ?_
  refine j_getI rfl fa_Model_350 kd_81 lc_81 (by decide) rfl (D_Model_lay 12 rfl) ?_
  refine j_imul (D_Model_lay 13 rfl) ?_
  refine j_iconst (v := 1) (D_Model_lay 14 rfl) rfl ?_
  refine j_iadd (D_Model_lay 15 rfl) ?_
  refine j_iloadn (k := 2) (D_Model_lay 16 rfl) rfl rfl ?_
  have g2 := gd_c h
  replace h := gd_s h
  refine j_iast (NI := 1620) (D_Model_lay 17 rfl) kd_116 lc_116 (rfl) rfl g2.1 g2.2 ?_
  refine j_gen (fun G2 e2 => ?_)
  replace h := wG_at h e2
  refine j_aloadn (k := 0) (D_Model_lay 18 rfl) rfl rfl ?_
  refine j_dup (D_Model_lay 19 rfl) rfl ?_
  refine j_getI rfl fa_Model_350 kd_81 lc_81 (by decide) rfl (D_Model_lay 20 rfl) ?_
  refine j_iconst (v := 1) (D_Model_lay 21 rfl) rfl ?_
  refine j_iadd (D_Model_lay 22 rfl) ?_
  refine j_putI rfl fa_Model_350 kd_81 lc_81 (by decide) rfl (D_Model_lay 23 rfl) ?_
  refine j_gen (fun G3 e3 => ?_)
  replace h := wG_at h e3
  exact j_vret (D_Model_lay 24 rfl) rfl rfl rfl (leafV h)
abbrev M_Model_sumOf : MI := (⟨"InquestHallModel", "sumOf", "()Z"⟩, prog_14_method_38_code, 2, (some .boolean))
abbrev M_Model_unit : MI := (⟨"InquestHallModel", "unit", "()Z"⟩, prog_14_method_40_code, 1, (some .boolean))
theorem cw_Model_sumOf : Cond.code M_Model_sumOf.1 M_Model_sumOf.2.1 M_Model_sumOf.2.2.1 M_Model_sumOf.2.2.2 ∈ TS := mTS (List.mem_of_getElem? (i := 1742) (by decide +kernel)) (by decide +kernel)
theorem cw_Model_unit : Cond.code M_Model_unit.1 M_Model_unit.2.1 M_Model_unit.2.2.1 M_Model_unit.2.2.2 ∈ TS := mTS (List.mem_of_getElem? (i := 1750) (by decide +kernel)) (by decide +kernel)
theorem lk_Model_367 : Cond.methodLink "InquestHallModel" 367 M_Model_opens.1 ∈ TS := mTS (List.mem_of_getElem? (i := 1751) (by decide +kernel)) (by decide +kernel)
theorem mok_Model_opens : MOK M_Model_opens 0 := ⟨mTS (List.mem_of_getElem? (i := 1753) (by decide +kernel)) (by decide +kernel), mTS (List.mem_of_getElem? (i := 81) (by decide +kernel)) (by decide +kernel), mTS (List.mem_of_getElem? (i := 139) (by decide +kernel)) (by decide +kernel), cw_Model_opens, ⟨by decide, by decide, by decide +kernel⟩, by decide +kernel, by decide⟩
theorem lk_Model_370 : Cond.methodLink "InquestHallModel" 370 M_Model_sumOf.1 ∈ TS := mTS (List.mem_of_getElem? (i := 1739) (by decide +kernel)) (by decide +kernel)
theorem mok_Model_sumOf : MOK M_Model_sumOf 0 := ⟨mTS (List.mem_of_getElem? (i := 1741) (by decide +kernel)) (by decide +kernel), mTS (List.mem_of_getElem? (i := 78) (by decide +kernel)) (by decide +kernel), mTS (List.mem_of_getElem? (i := 139) (by decide +kernel)) (by decide +kernel), cw_Model_sumOf, ⟨by decide, by decide, by decide +kernel⟩, by decide +kernel, by decide⟩
theorem lk_Model_360 : Cond.methodLink "InquestHallModel" 360 M_Model_lay.1 ∈ TS := mTS (List.mem_of_getElem? (i := 1755) (by decide +kernel)) (by decide +kernel)
theorem mok_Model_lay : MOK M_Model_lay 2 := ⟨mTS (List.mem_of_getElem? (i := 1757) (by decide +kernel)) (by decide +kernel), mTS (List.mem_of_getElem? (i := 82) (by decide +kernel)) (by decide +kernel), mTS (List.mem_of_getElem? (i := 139) (by decide +kernel)) (by decide +kernel), cw_Model_lay, ⟨by decide, by decide, by decide +kernel⟩, by decide +kernel, by decide⟩
def tb_Model_unit : List (Nat × Instr × Nat) := [(0, .aload_n 0, 1), (1, .getfield 314, 3), (4, .bipush 40, 2), (6, .if_icmp .ne 40, 3), (9, .aload_n 0, 1), (10, .invokevirtual 367, 3), (13, .ifCond .eq 19, 3), (16, .aload_n 0, 1), (17, .invokevirtual 370, 3), (20, .ifCond .eq 12, 3), (23, .aload_n 0, 1), (24, .bipush 41, 2), (26, .invokevirtual 373, 3), (29, .ifCond .ne 5, 3), (32, .iconst 0, 1), (33, .ireturn, 1), (34, .aload_n 0, 1), (35, .dup, 1), (36, .getfield 353, 3), (39, .iconst 1, 1), (40, .isub, 1), (41, .putfield 353, 3), (44, .iconst 1, 1), (45, .ireturn, 1), (46, .aload_n 0, 1), (47, .getfield 314, 3), (50, .iconst 2, 1), (51, .if_icmp .eq 27, 3), (54, .aload_n 0, 1), (55, .getfield 314, 3), (58, .iconst 3, 1), (59, .if_icmp .eq 19, 3), (62, .aload_n 0, 1), (63, .getfield 314, 3), (66, .sipush 201, 3), (69, .if_icmp .ge 9, 3), (72, .aload_n 0, 1), (73, .iconst 1, 1), (74, .invokevirtual 341, 3), (77, .ireturn, 1), (78, .aload_n 0, 1), (79, .aload_n 0, 1), (80, .getfield 314, 3), (83, .iconst 2, 1), (84, .if_icmp .ne 7, 3), (87, .iconst 0, 1), (88, .goto 26, 3), (91, .aload_n 0, 1), (92, .getfield 314, 3), (95, .iconst 3, 1), (96, .if_icmp .ne 8, 3), (99, .bipush 6, 2), (101, .goto 13, 3), (104, .iconst 1, 1), (105, .aload_n 0, 1), (106, .getfield 314, 3), (109, .iadd, 1), (110, .sipush 201, 3), (113, .isub, 1), (114, .aload_n 0, 1), (115, .getfield 332, 3), (118, .invokevirtual 360, 3), (121, .aload_n 0, 1), (122, .invokevirtual 344, 3), (125, .iconst 1, 1), (126, .ireturn, 1)]
theorem D_Model_unit (i : Nat) {pc len : Nat} {ins : Instr} (hi : tb_Model_unit[i]? = some (pc, ins, len)) : decode M_Model_unit.2.1 pc = .ok (ins, len) := dec_of (by decide +kernel) i hi
def f_Model_unit_L114 (rec : GS → Option (Int × GS)) (G : GS) (s0 : Int) : Option (Int × GS) :=
  (f_Model_lay G s0 (gi G 81 47)).bind fun q1 =>
  (f_Model_next0 q1).bind fun q2 =>
  some (1, q2)
theorem s_Model_unit_L114 {X : XT} {rec : GS → Option (Int × GS)} {D : Nat} (hD : 40 ≤ D) (hrec : ∀ {G : GS} {r : Int × GS}, rec G = some r → Call X true D 0 0 M_Model_sumOf [rf X 81] NC G (Rz r.1 r.2)) {r : Int × GS} : ∀ {G : GS} {s0 : Int}, wr s0 = s0 → f_Model_unit_L114 rec G s0 = some r → J X true (D + 1) 0 0 M_Model_unit (Rz r.1 r.2) NC 0 0 114 [(0, rf X 81)] [vi s0, rf X 81] G := by
  intro G s0 hs0 h
  unfold f_Model_unit_L114 at h
  refine j_aloadn (k := 0) (D_Model_unit 59 rfl) rfl rfl ?_
  refine j_getI rfl fa_Model_332 kd_81 lc_81 (by decide) rfl (D_Model_unit 60 rfl) ?_
  obtain ⟨q1, e1, h⟩ := Option.bind_eq_some_iff.mp h
  refine j_cVv (c_Model_lay (hs0) (wr_gi _ _ _) e1) rfl lk_Model_360 mok_Model_lay kd_81 lc_81 rfl (by omega) rfl rfl (Nat.le_of_ble_eq_true rfl) (D_Model_unit 61 rfl) ?_
  refine j_aloadn (k := 0) (D_Model_unit 62 rfl) rfl rfl ?_
  obtain ⟨q2, e2, h⟩ := Option.bind_eq_some_iff.mp h
  refine j_cVv (c_Model_next0 e2) rfl lk_Model_344 mok_Model_next0 kd_81 lc_81 rfl (by omega) rfl rfl (Nat.le_of_ble_eq_true rfl) (D_Model_unit 63 rfl) ?_
  refine j_iconst (v := 1) (D_Model_unit 64 rfl) rfl ?_
  exact j_zret (D_Model_unit 65 rfl) rfl (wr_lit rfl) (nz_01 (by decide)) rfl rfl (leafZ h (wr_n (wr_lit rfl)) (by decide))
def f_Model_unit_L78 (rec : GS → Option (Int × GS)) (G : GS) : Option (Int × GS) :=
  if gi G 81 45 = 2 then
    f_Model_unit_L114 rec G 0
  else
    if gi G 81 45 = 3 then
      f_Model_unit_L114 rec G 6
    else
      f_Model_unit_L114 rec G (wr ((1 + (gi G 81 45)) - 201))
theorem s_Model_unit_L78 {X : XT} {rec : GS → Option (Int × GS)} {D : Nat} (hD : 40 ≤ D) (hrec : ∀ {G : GS} {r : Int × GS}, rec G = some r → Call X true D 0 0 M_Model_sumOf [rf X 81] NC G (Rz r.1 r.2)) {r : Int × GS} : ∀ {G : GS}, f_Model_unit_L78 rec G = some r → J X true (D + 1) 0 0 M_Model_unit (Rz r.1 r.2) NC 0 0 78 [(0, rf X 81)] [] G := by
  intro G h
  unfold f_Model_unit_L78 at h
  refine j_aloadn (k := 0) (D_Model_unit 40 rfl) rfl rfl ?_
  refine j_aloadn (k := 0) (D_Model_unit 41 rfl) rfl rfl ?_
  refine j_getI rfl fa_Model_314 kd_81 lc_81 (by decide) rfl (D_Model_unit 42 rfl) ?_
  refine j_iconst (v := 2) (D_Model_unit 43 rfl) rfl ?_
  refine j_ic_ne (tgt := 91) (D_Model_unit 44 rfl) rfl (wr_gi _ _ _) (wr_lit rfl) (fun c1 => ?_) (fun c1 => ?_)
  · replace h := ite_f h c1
    refine j_aloadn (k := 0) (D_Model_unit 47 rfl) rfl rfl ?_
    refine j_getI rfl fa_Model_314 kd_81 lc_81 (by decide) rfl (D_Model_unit 48 rfl) ?_
    refine j_iconst (v := 3) (D_Model_unit 49 rfl) rfl ?_
    refine j_ic_ne (tgt := 104) (D_Model_unit 50 rfl) rfl (wr_gi _ _ _) (wr_lit rfl) (fun c2 => ?_) (fun c2 => ?_)
    · replace h := ite_f h c2
      refine j_iconst (v := 1) (D_Model_unit 53 rfl) rfl ?_
      refine j_aloadn (k := 0) (D_Model_unit 54 rfl) rfl rfl ?_
      refine j_getI rfl fa_Model_314 kd_81 lc_81 (by decide) rfl (D_Model_unit 55 rfl) ?_
      refine j_iadd (D_Model_unit 56 rfl) ?_
      refine j_sipush (v := 201) (D_Model_unit 57 rfl) rfl ?_
      refine j_isub (D_Model_unit 58 rfl) ?_
      refine j_top0 (rfl) ?_
      refine j_loc [0] rfl ?_
      exact s_Model_unit_L114 hD hrec (wr_wr _) h
    · replace h := ite_t h c2
      refine j_bipush (v := 6) (D_Model_unit 51 rfl) rfl ?_
      refine j_goto (tgt := 114) (D_Model_unit 52 rfl) rfl ?_
      refine j_loc [0] rfl ?_
      exact s_Model_unit_L114 hD hrec (wr_lit rfl) h
  · replace h := ite_t h c1
    refine j_iconst (v := 0) (D_Model_unit 45 rfl) rfl ?_
    refine j_goto (tgt := 114) (D_Model_unit 46 rfl) rfl ?_
    refine j_loc [0] rfl ?_
    exact s_Model_unit_L114 hD hrec (wr_lit rfl) h
def f_Model_unit (rec : GS → Option (Int × GS)) (G : GS) : Option (Int × GS) :=
  if gi G 81 45 = 40 then
    (f_Model_opens G).bind fun q2 =>
    if q2.1 = 0 then
      some (0, q2.2)
    else
      (rec q2.2).bind fun q3 =>
      if q3.1 = 0 then
        some (0, q3.2)
      else
        (f_Model_need q3.2 41).bind fun q4 =>
        if q4.1 = 0 then
          some (0, q4.2)
        else
          wG (si q4.2 81 51 ((gi q4.2 81 51) - 1)) fun G1 =>
          some (1, G1)
  else
    if gi G 81 45 = 2 then
      f_Model_unit_L78 rec G
    else
      if gi G 81 45 = 3 then
        f_Model_unit_L78 rec G
      else
        if 201 ≤ gi G 81 45 then
          f_Model_unit_L78 rec G
        else
          (f_Model_bad G 1).bind fun q1 =>
          some (q1.1, q1.2)
theorem c_Model_unit {X : XT} {rec : GS → Option (Int × GS)} {D : Nat} (hD : 40 ≤ D) (hrec : ∀ {G : GS} {r : Int × GS}, rec G = some r → Call X true D 0 0 M_Model_sumOf [rf X 81] NC G (Rz r.1 r.2)) {G : GS} {r : Int × GS} (h : f_Model_unit rec G = some r) : Call X true (D + 1) 0 0 M_Model_unit [rf X 81] NC G (Rz r.1 r.2) := by
  refine Call_of_J cw_Model_unit (by decide +kernel) (Nat.le_of_ble_eq_true rfl) ?_
  unfold f_Model_unit at h
  show J X true (D + 1) 0 0 M_Model_unit (Rz r.1 r.2) NC 0 0 0 [(0, rf X 81)] [] G
  refine j_aloadn (k := 0) (D_Model_unit 0 rfl) rfl rfl ?_
  refine j_getI rfl fa_Model_314 kd_81 lc_81 (by decide) rfl (D_Model_unit 1 rfl) ?_
  refine j_bipush (v := 40) (D_Model_unit 2 rfl) rfl ?_
  refine j_ic_ne (tgt := 46) (D_Model_unit 3 rfl) rfl (wr_gi _ _ _) (wr_lit rfl) (fun c1 => ?_) (fun c1 => ?_)
  · replace h := ite_f h c1
    refine j_aloadn (k := 0) (D_Model_unit 24 rfl) rfl rfl ?_
    refine j_getI rfl fa_Model_314 kd_81 lc_81 (by decide) rfl (D_Model_unit 25 rfl) ?_
    refine j_iconst (v := 2) (D_Model_unit 26 rfl) rfl ?_
    refine j_ic_eq (tgt := 78) (D_Model_unit 27 rfl) rfl (wr_gi _ _ _) (wr_lit rfl) (fun c2 => ?_) (fun c2 => ?_)
    · replace h := ite_t h c2
      refine j_loc [0] rfl ?_
      exact s_Model_unit_L78 hD hrec h
    · replace h := ite_f h c2
      refine j_aloadn (k := 0) (D_Model_unit 28 rfl) rfl rfl ?_
      refine j_getI rfl fa_Model_314 kd_81 lc_81 (by decide) rfl (D_Model_unit 29 rfl) ?_
      refine j_iconst (v := 3) (D_Model_unit 30 rfl) rfl ?_
      refine j_ic_eq (tgt := 78) (D_Model_unit 31 rfl) rfl (wr_gi _ _ _) (wr_lit rfl) (fun c3 => ?_) (fun c3 => ?_)
      · replace h := ite_t h c3
        refine j_loc [0] rfl ?_
        exact s_Model_unit_L78 hD hrec h
      · replace h := ite_f h c3
        refine j_aloadn (k := 0) (D_Model_unit 32 rfl) rfl rfl ?_
        refine j_getI rfl fa_Model_314 kd_81 lc_81 (by decide) rfl (D_Model_unit 33 rfl) ?_
        refine j_sipush (v := 201) (D_Model_unit 34 rfl) rfl ?_
        refine j_ic_ge (tgt := 78) (D_Model_unit 35 rfl) rfl (wr_gi _ _ _) (wr_lit rfl) (fun c4 => ?_) (fun c4 => ?_)
        · replace h := ite_t h c4
          refine j_loc [0] rfl ?_
          exact s_Model_unit_L78 hD hrec h
        · replace h := ite_f h c4
          refine j_aloadn (k := 0) (D_Model_unit 36 rfl) rfl rfl ?_
          refine j_iconst (v := 1) (D_Model_unit 37 rfl) rfl ?_
          obtain ⟨q1, e1, h⟩ := Option.bind_eq_some_iff.mp h
          refine j_cVz (c_Model_bad (wr_lit rfl) e1) rfl lk_Model_341 mok_Model_bad kd_81 lc_81 rfl (by omega) rfl rfl (Nat.le_of_ble_eq_true rfl) (D_Model_unit 38 rfl) (fun w1 bw1 => ?_)
          exact j_zret (D_Model_unit 39 rfl) rfl (w1) (nz_01 bw1) rfl rfl (leafZ h (wr_n (w1)) bw1)
  · replace h := ite_t h c1
    refine j_aloadn (k := 0) (D_Model_unit 4 rfl) rfl rfl ?_
    obtain ⟨q2, e2, h⟩ := Option.bind_eq_some_iff.mp h
    refine j_cVz (c_Model_opens e2) rfl lk_Model_367 mok_Model_opens kd_81 lc_81 rfl (by omega) rfl rfl (Nat.le_of_ble_eq_true rfl) (D_Model_unit 5 rfl) (fun w2 bw2 => ?_)
    refine j_if_eq (tgt := 32) (D_Model_unit 6 rfl) rfl (w2) (fun c5 => ?_) (fun c5 => ?_)
    · replace h := ite_t h c5
      refine j_iconst (v := 0) (D_Model_unit 14 rfl) rfl ?_
      exact j_zret (D_Model_unit 15 rfl) rfl (wr_lit rfl) (nz_01 (by decide)) rfl rfl (leafZ h (wr_n (wr_lit rfl)) (by decide))
    · replace h := ite_f h c5
      refine j_aloadn (k := 0) (D_Model_unit 7 rfl) rfl rfl ?_
      obtain ⟨q3, e3, h⟩ := Option.bind_eq_some_iff.mp h
      refine j_cVz (hrec e3) rfl lk_Model_370 mok_Model_sumOf kd_81 lc_81 rfl (by omega) rfl rfl (Nat.le_of_ble_eq_true rfl) (D_Model_unit 8 rfl) (fun w3 bw3 => ?_)
      refine j_if_eq (tgt := 32) (D_Model_unit 9 rfl) rfl (w3) (fun c6 => ?_) (fun c6 => ?_)
      · replace h := ite_t h c6
        refine j_iconst (v := 0) (D_Model_unit 14 rfl) rfl ?_
        exact j_zret (D_Model_unit 15 rfl) rfl (wr_lit rfl) (nz_01 (by decide)) rfl rfl (leafZ h (wr_n (wr_lit rfl)) (by decide))
      · replace h := ite_f h c6
        refine j_aloadn (k := 0) (D_Model_unit 10 rfl) rfl rfl ?_
        refine j_bipush (v := 41) (D_Model_unit 11 rfl) rfl ?_
        obtain ⟨q4, e4, h⟩ := Option.bind_eq_some_iff.mp h
        refine j_cVz (c_Model_need (wr_lit rfl) e4) rfl lk_Model_373 mok_Model_need kd_81 lc_81 rfl (by omega) rfl rfl (Nat.le_of_ble_eq_true rfl) (D_Model_unit 12 rfl) (fun w4 bw4 => ?_)
        refine j_if_ne (tgt := 34) (D_Model_unit 13 rfl) rfl (w4) (fun c7 => ?_) (fun c7 => ?_)
        · replace h := ite_f h c7
          refine j_aloadn (k := 0) (D_Model_unit 16 rfl) rfl rfl ?_
          refine j_dup (D_Model_unit 17 rfl) rfl ?_
          refine j_getI rfl fa_Model_353 kd_81 lc_81 (by decide) rfl (D_Model_unit 18 rfl) ?_
          refine j_iconst (v := 1) (D_Model_unit 19 rfl) rfl ?_
          refine j_isub (D_Model_unit 20 rfl) ?_
          refine j_putI rfl fa_Model_353 kd_81 lc_81 (by decide) rfl (D_Model_unit 21 rfl) ?_
          refine j_gen (fun G1 e5 => ?_)
          replace h := wG_at h e5
          refine j_iconst (v := 1) (D_Model_unit 22 rfl) rfl ?_
          exact j_zret (D_Model_unit 23 rfl) rfl (wr_lit rfl) (nz_01 (by decide)) rfl rfl (leafZ h (wr_n (wr_lit rfl)) (by decide))
        · replace h := ite_t h c7
          refine j_iconst (v := 0) (D_Model_unit 14 rfl) rfl ?_
          exact j_zret (D_Model_unit 15 rfl) rfl (wr_lit rfl) (nz_01 (by decide)) rfl rfl (leafZ h (wr_n (wr_lit rfl)) (by decide))
abbrev M_Model_product : MI := (⟨"InquestHallModel", "product", "()Z"⟩, prog_14_method_39_code, 2, (some .boolean))
theorem cw_Model_product : Cond.code M_Model_product.1 M_Model_product.2.1 M_Model_product.2.2.1 M_Model_product.2.2.2 ∈ TS := mTS (List.mem_of_getElem? (i := 1746) (by decide +kernel)) (by decide +kernel)
theorem lk_Model_364 : Cond.methodLink "InquestHallModel" 364 M_Model_unit.1 ∈ TS := mTS (List.mem_of_getElem? (i := 1747) (by decide +kernel)) (by decide +kernel)
theorem mok_Model_unit : MOK M_Model_unit 0 := ⟨mTS (List.mem_of_getElem? (i := 1749) (by decide +kernel)) (by decide +kernel), mTS (List.mem_of_getElem? (i := 80) (by decide +kernel)) (by decide +kernel), mTS (List.mem_of_getElem? (i := 139) (by decide +kernel)) (by decide +kernel), cw_Model_unit, ⟨by decide, by decide, by decide +kernel⟩, by decide +kernel, by decide⟩
def tb_Model_product : List (Nat × Instr × Nat) := [(0, .aload_n 0, 1), (1, .invokevirtual 364, 3), (4, .ifCond .ne 5, 3), (7, .iconst 0, 1), (8, .ireturn, 1), (9, .aload_n 0, 1), (10, .getfield 314, 3), (13, .bipush 42, 2), (15, .if_icmp .eq 12, 3), (18, .aload_n 0, 1), (19, .getfield 314, 3), (22, .bipush 47, 2), (24, .if_icmp .ne 89, 3), (27, .aload_n 0, 1), (28, .getfield 314, 3), (31, .bipush 47, 2), (33, .if_icmp .ne 7, 3), (36, .iconst 1, 1), (37, .goto 4, 3), (40, .iconst 0, 1), (41, .istore_n 1, 1), (42, .aload_n 0, 1), (43, .invokevirtual 344, 3), (46, .iload_n 1, 1), (47, .ifCond .eq 47, 3), (50, .aload_n 0, 1), (51, .getfield 314, 3), (54, .iconst 2, 1), (55, .if_icmp .eq 9, 3), (58, .aload_n 0, 1), (59, .iconst 1, 1), (60, .invokevirtual 341, 3), (63, .ireturn, 1), (64, .aload_n 0, 1), (65, .getfield 332, 3), (68, .ifCond .ne 9, 3), (71, .aload_n 0, 1), (72, .iconst 2, 1), (73, .invokevirtual 341, 3), (76, .ireturn, 1), (77, .aload_n 0, 1), (78, .bipush 11, 2), (80, .aload_n 0, 1), (81, .getfield 332, 3), (84, .invokevirtual 360, 3), (87, .aload_n 0, 1), (88, .invokevirtual 344, 3), (91, .goto 19, 3), (94, .aload_n 0, 1), (95, .invokevirtual 364, 3), (98, .ifCond .ne 5, 3), (101, .iconst 0, 1), (102, .ireturn, 1), (103, .aload_n 0, 1), (104, .bipush 10, 2), (106, .iconst 0, 1), (107, .invokevirtual 360, 3), (110, .goto (-101), 3), (113, .iconst 1, 1), (114, .ireturn, 1)]
theorem D_Model_product (i : Nat) {pc len : Nat} {ins : Instr} (hi : tb_Model_product[i]? = some (pc, ins, len)) : decode M_Model_product.2.1 pc = .ok (ins, len) := dec_of (by decide +kernel) i hi
def f_Model_product_L110 (rec : GS → Option (Int × GS)) (k9 : GS → Option (Int × GS)) (G : GS) : Option (Int × GS) :=
  k9 G
theorem s_Model_product_L110 {X : XT} {rec : GS → Option (Int × GS)} {D : Nat} (hD : 40 ≤ D) (hrec : ∀ {G : GS} {r : Int × GS}, rec G = some r → Call X true D 0 0 M_Model_sumOf [rf X 81] NC G (Rz r.1 r.2)) {r : Int × GS} {k9 : GS → Option (Int × GS)} (hk9 : ∀ {G : GS} , k9 G = some r → J X true (D + 2) 0 0 M_Model_product (Rz r.1 r.2) NC 0 0 9 [(0, rf X 81)] [] G) : ∀ {G : GS}, f_Model_product_L110 rec k9 G = some r → J X true (D + 2) 0 0 M_Model_product (Rz r.1 r.2) NC 0 0 110 [(0, rf X 81)] [] G := by
  intro G h
  unfold f_Model_product_L110 at h
  refine j_goto (tgt := 9) (D_Model_product 57 rfl) rfl ?_
  refine j_loc [0] rfl ?_
  exact hk9 h
def f_Model_product_L41 (rec : GS → Option (Int × GS)) (k9 : GS → Option (Int × GS)) (G : GS) (s0 : Int) : Option (Int × GS) :=
  (f_Model_next0 G).bind fun q1 =>
  if s0 = 0 then
    (f_Model_unit rec q1).bind fun q2 =>
    if q2.1 = 0 then
      some (0, q2.2)
    else
      (f_Model_lay q2.2 10 0).bind fun q3 =>
      f_Model_product_L110 rec k9 q3
  else
    if gi q1 81 45 = 2 then
      if gi q1 81 47 = 0 then
        (f_Model_bad q1 2).bind fun q6 =>
        some (q6.1, q6.2)
      else
        (f_Model_lay q1 11 (gi q1 81 47)).bind fun q4 =>
        (f_Model_next0 q4).bind fun q5 =>
        f_Model_product_L110 rec k9 q5
    else
      (f_Model_bad q1 1).bind fun q7 =>
      some (q7.1, q7.2)
theorem s_Model_product_L41 {X : XT} {rec : GS → Option (Int × GS)} {D : Nat} (hD : 40 ≤ D) (hrec : ∀ {G : GS} {r : Int × GS}, rec G = some r → Call X true D 0 0 M_Model_sumOf [rf X 81] NC G (Rz r.1 r.2)) {r : Int × GS} {k9 : GS → Option (Int × GS)} (hk9 : ∀ {G : GS} , k9 G = some r → J X true (D + 2) 0 0 M_Model_product (Rz r.1 r.2) NC 0 0 9 [(0, rf X 81)] [] G) : ∀ {G : GS} {s0 : Int}, wr s0 = s0 → f_Model_product_L41 rec k9 G s0 = some r → J X true (D + 2) 0 0 M_Model_product (Rz r.1 r.2) NC 0 0 41 [(0, rf X 81)] [vi s0] G := by
  intro G s0 hs0 h
  unfold f_Model_product_L41 at h
  refine j_istoren (L' := [(1, vi s0), (0, rf X 81)]) (D_Model_product 20 rfl) rfl (hs0) (by decide) rfl ?_
  refine j_aloadn (k := 1) (D_Model_product 21 rfl) rfl rfl ?_
  obtain ⟨q1, e1, h⟩ := Option.bind_eq_some_iff.mp h
  refine j_cVv (c_Model_next0 e1) rfl lk_Model_344 mok_Model_next0 kd_81 lc_81 rfl (by omega) rfl rfl (Nat.le_of_ble_eq_true rfl) (D_Model_product 22 rfl) ?_
  refine j_iloadn (k := 0) (D_Model_product 23 rfl) rfl rfl ?_
  refine j_if_eq (tgt := 94) (D_Model_product 24 rfl) rfl (hs0) (fun c1 => ?_) (fun c1 => ?_)
  · replace h := ite_t h c1
    refine j_aloadn (k := 1) (D_Model_product 48 rfl) rfl rfl ?_
    obtain ⟨q2, e2, h⟩ := Option.bind_eq_some_iff.mp h
    refine j_cVz (c_Model_unit hD hrec e2) rfl lk_Model_364 mok_Model_unit kd_81 lc_81 rfl (by omega) rfl rfl (Nat.le_of_ble_eq_true rfl) (D_Model_product 49 rfl) (fun w1 bw1 => ?_)
    refine j_if_ne (tgt := 103) (D_Model_product 50 rfl) rfl (w1) (fun c2 => ?_) (fun c2 => ?_)
    · replace h := ite_f h c2
      refine j_aloadn (k := 1) (D_Model_product 53 rfl) rfl rfl ?_
      refine j_bipush (v := 10) (D_Model_product 54 rfl) rfl ?_
      refine j_iconst (v := 0) (D_Model_product 55 rfl) rfl ?_
      obtain ⟨q3, e3, h⟩ := Option.bind_eq_some_iff.mp h
      refine j_cVv (c_Model_lay (wr_lit rfl) (wr_lit rfl) e3) rfl lk_Model_360 mok_Model_lay kd_81 lc_81 rfl (by omega) rfl rfl (Nat.le_of_ble_eq_true rfl) (D_Model_product 56 rfl) ?_
      refine j_loc [1] rfl ?_
      exact s_Model_product_L110 hD hrec hk9 h
    · replace h := ite_t h c2
      refine j_iconst (v := 0) (D_Model_product 51 rfl) rfl ?_
      exact j_zret (D_Model_product 52 rfl) rfl (wr_lit rfl) (nz_01 (by decide)) rfl rfl (leafZ h (wr_n (wr_lit rfl)) (by decide))
  · replace h := ite_f h c1
    refine j_aloadn (k := 1) (D_Model_product 25 rfl) rfl rfl ?_
    refine j_getI rfl fa_Model_314 kd_81 lc_81 (by decide) rfl (D_Model_product 26 rfl) ?_
    refine j_iconst (v := 2) (D_Model_product 27 rfl) rfl ?_
    refine j_ic_eq (tgt := 64) (D_Model_product 28 rfl) rfl (wr_gi _ _ _) (wr_lit rfl) (fun c3 => ?_) (fun c3 => ?_)
    · replace h := ite_t h c3
      refine j_aloadn (k := 1) (D_Model_product 33 rfl) rfl rfl ?_
      refine j_getI rfl fa_Model_332 kd_81 lc_81 (by decide) rfl (D_Model_product 34 rfl) ?_
      refine j_if_ne (tgt := 77) (D_Model_product 35 rfl) rfl (wr_gi _ _ _) (fun c4 => ?_) (fun c4 => ?_)
      · replace h := ite_f h c4
        refine j_aloadn (k := 1) (D_Model_product 40 rfl) rfl rfl ?_
        refine j_bipush (v := 11) (D_Model_product 41 rfl) rfl ?_
        refine j_aloadn (k := 1) (D_Model_product 42 rfl) rfl rfl ?_
        refine j_getI rfl fa_Model_332 kd_81 lc_81 (by decide) rfl (D_Model_product 43 rfl) ?_
        obtain ⟨q4, e4, h⟩ := Option.bind_eq_some_iff.mp h
        refine j_cVv (c_Model_lay (wr_lit rfl) (wr_gi _ _ _) e4) rfl lk_Model_360 mok_Model_lay kd_81 lc_81 rfl (by omega) rfl rfl (Nat.le_of_ble_eq_true rfl) (D_Model_product 44 rfl) ?_
        refine j_aloadn (k := 1) (D_Model_product 45 rfl) rfl rfl ?_
        obtain ⟨q5, e5, h⟩ := Option.bind_eq_some_iff.mp h
        refine j_cVv (c_Model_next0 e5) rfl lk_Model_344 mok_Model_next0 kd_81 lc_81 rfl (by omega) rfl rfl (Nat.le_of_ble_eq_true rfl) (D_Model_product 46 rfl) ?_
        refine j_goto (tgt := 110) (D_Model_product 47 rfl) rfl ?_
        refine j_loc [1] rfl ?_
        exact s_Model_product_L110 hD hrec hk9 h
      · replace h := ite_t h c4
        refine j_aloadn (k := 1) (D_Model_product 36 rfl) rfl rfl ?_
        refine j_iconst (v := 2) (D_Model_product 37 rfl) rfl ?_
        obtain ⟨q6, e6, h⟩ := Option.bind_eq_some_iff.mp h
        refine j_cVz (c_Model_bad (wr_lit rfl) e6) rfl lk_Model_341 mok_Model_bad kd_81 lc_81 rfl (by omega) rfl rfl (Nat.le_of_ble_eq_true rfl) (D_Model_product 38 rfl) (fun w2 bw2 => ?_)
        exact j_zret (D_Model_product 39 rfl) rfl (w2) (nz_01 bw2) rfl rfl (leafZ h (wr_n (w2)) bw2)
    · replace h := ite_f h c3
      refine j_aloadn (k := 1) (D_Model_product 29 rfl) rfl rfl ?_
      refine j_iconst (v := 1) (D_Model_product 30 rfl) rfl ?_
      obtain ⟨q7, e7, h⟩ := Option.bind_eq_some_iff.mp h
      refine j_cVz (c_Model_bad (wr_lit rfl) e7) rfl lk_Model_341 mok_Model_bad kd_81 lc_81 rfl (by omega) rfl rfl (Nat.le_of_ble_eq_true rfl) (D_Model_product 31 rfl) (fun w3 bw3 => ?_)
      exact j_zret (D_Model_product 32 rfl) rfl (w3) (nz_01 bw3) rfl rfl (leafZ h (wr_n (w3)) bw3)
def f_Model_product_L27 (rec : GS → Option (Int × GS)) (k9 : GS → Option (Int × GS)) (G : GS) : Option (Int × GS) :=
  if gi G 81 45 = 47 then
    f_Model_product_L41 rec k9 G 1
  else
    f_Model_product_L41 rec k9 G 0
theorem s_Model_product_L27 {X : XT} {rec : GS → Option (Int × GS)} {D : Nat} (hD : 40 ≤ D) (hrec : ∀ {G : GS} {r : Int × GS}, rec G = some r → Call X true D 0 0 M_Model_sumOf [rf X 81] NC G (Rz r.1 r.2)) {r : Int × GS} {k9 : GS → Option (Int × GS)} (hk9 : ∀ {G : GS} , k9 G = some r → J X true (D + 2) 0 0 M_Model_product (Rz r.1 r.2) NC 0 0 9 [(0, rf X 81)] [] G) : ∀ {G : GS}, f_Model_product_L27 rec k9 G = some r → J X true (D + 2) 0 0 M_Model_product (Rz r.1 r.2) NC 0 0 27 [(0, rf X 81)] [] G := by
  intro G h
  unfold f_Model_product_L27 at h
  refine j_aloadn (k := 0) (D_Model_product 13 rfl) rfl rfl ?_
  refine j_getI rfl fa_Model_314 kd_81 lc_81 (by decide) rfl (D_Model_product 14 rfl) ?_
  refine j_bipush (v := 47) (D_Model_product 15 rfl) rfl ?_
  refine j_ic_ne (tgt := 40) (D_Model_product 16 rfl) rfl (wr_gi _ _ _) (wr_lit rfl) (fun c1 => ?_) (fun c1 => ?_)
  · replace h := ite_f h c1
    refine j_iconst (v := 0) (D_Model_product 19 rfl) rfl ?_
    refine j_loc [0] rfl ?_
    exact s_Model_product_L41 hD hrec hk9 (wr_lit rfl) h
  · replace h := ite_t h c1
    refine j_iconst (v := 1) (D_Model_product 17 rfl) rfl ?_
    refine j_goto (tgt := 41) (D_Model_product 18 rfl) rfl ?_
    refine j_loc [0] rfl ?_
    exact s_Model_product_L41 hD hrec hk9 (wr_lit rfl) h
def f_Model_product_L9 (rec : GS → Option (Int × GS)) : Nat → GS → Option (Int × GS)
  | 0, _ => none
  | n + 1, G =>
    if gi G 81 45 = 42 then
      f_Model_product_L27 rec (f_Model_product_L9 rec n) G
    else
      if gi G 81 45 = 47 then
        f_Model_product_L27 rec (f_Model_product_L9 rec n) G
      else
        some (1, G)
theorem s_Model_product_L9 {X : XT} {rec : GS → Option (Int × GS)} {D : Nat} (hD : 40 ≤ D) (hrec : ∀ {G : GS} {r : Int × GS}, rec G = some r → Call X true D 0 0 M_Model_sumOf [rf X 81] NC G (Rz r.1 r.2)) {r : Int × GS} : ∀ (n : Nat) {G : GS}, f_Model_product_L9 rec n G = some r → J X true (D + 2) 0 0 M_Model_product (Rz r.1 r.2) NC 0 0 9 [(0, rf X 81)] [] G := by
  intro n
  induction n with
  | zero =>
    intro G h
    exact none_some h
  | succ n ih =>
    intro G h
    rw [f_Model_product_L9] at h
    refine j_aloadn (k := 0) (D_Model_product 5 rfl) rfl rfl ?_
    refine j_getI rfl fa_Model_314 kd_81 lc_81 (by decide) rfl (D_Model_product 6 rfl) ?_
    refine j_bipush (v := 42) (D_Model_product 7 rfl) rfl ?_
    refine j_ic_eq (tgt := 27) (D_Model_product 8 rfl) rfl (wr_gi _ _ _) (wr_lit rfl) (fun c1 => ?_) (fun c1 => ?_)
    · replace h := ite_t h c1
      refine j_loc [0] rfl ?_
      exact s_Model_product_L27 hD hrec ih h
    · replace h := ite_f h c1
      refine j_aloadn (k := 0) (D_Model_product 9 rfl) rfl rfl ?_
      refine j_getI rfl fa_Model_314 kd_81 lc_81 (by decide) rfl (D_Model_product 10 rfl) ?_
      refine j_bipush (v := 47) (D_Model_product 11 rfl) rfl ?_
      refine j_ic_ne (tgt := 113) (D_Model_product 12 rfl) rfl (wr_gi _ _ _) (wr_lit rfl) (fun c2 => ?_) (fun c2 => ?_)
      · replace h := ite_f h c2
        refine j_iconst (v := 1) (D_Model_product 58 rfl) rfl ?_
        exact j_zret (D_Model_product 59 rfl) rfl (wr_lit rfl) (nz_01 (by decide)) rfl rfl (leafZ h (wr_n (wr_lit rfl)) (by decide))
      · replace h := ite_t h c2
        refine j_loc [0] rfl ?_
        exact s_Model_product_L27 hD hrec ih h
def f_Model_product (rec : GS → Option (Int × GS)) (G : GS) : Option (Int × GS) :=
  (f_Model_unit rec G).bind fun q1 =>
  if q1.1 = 0 then
    some (0, q1.2)
  else
    f_Model_product_L9 rec FU q1.2
theorem c_Model_product {X : XT} {rec : GS → Option (Int × GS)} {D : Nat} (hD : 40 ≤ D) (hrec : ∀ {G : GS} {r : Int × GS}, rec G = some r → Call X true D 0 0 M_Model_sumOf [rf X 81] NC G (Rz r.1 r.2)) {G : GS} {r : Int × GS} (h : f_Model_product rec G = some r) : Call X true (D + 2) 0 0 M_Model_product [rf X 81] NC G (Rz r.1 r.2) := by
  refine Call_of_J cw_Model_product (by decide +kernel) (Nat.le_of_ble_eq_true rfl) ?_
  unfold f_Model_product at h
  show J X true (D + 2) 0 0 M_Model_product (Rz r.1 r.2) NC 0 0 0 [(0, rf X 81)] [] G
  refine j_aloadn (k := 0) (D_Model_product 0 rfl) rfl rfl ?_
  obtain ⟨q1, e1, h⟩ := Option.bind_eq_some_iff.mp h
  refine j_cVz (c_Model_unit hD hrec e1) rfl lk_Model_364 mok_Model_unit kd_81 lc_81 rfl (by omega) rfl rfl (Nat.le_of_ble_eq_true rfl) (D_Model_product 1 rfl) (fun w1 bw1 => ?_)
  refine j_if_ne (tgt := 9) (D_Model_product 2 rfl) rfl (w1) (fun c1 => ?_) (fun c1 => ?_)
  · replace h := ite_f h c1
    refine j_loc [0] rfl ?_
    exact s_Model_product_L9 hD hrec FU h
  · replace h := ite_t h c1
    refine j_iconst (v := 0) (D_Model_product 3 rfl) rfl ?_
    exact j_zret (D_Model_product 4 rfl) rfl (wr_lit rfl) (nz_01 (by decide)) rfl rfl (leafZ h (wr_n (wr_lit rfl)) (by decide))
