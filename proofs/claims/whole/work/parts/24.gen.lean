/-! printed by wip/whole/gen.py out of the listing of the bytecode -/
abbrev M_Seizings_tellOf : MI := (⟨"InquestHall$Seizings", "tellOf", "(II)I"⟩, prog_11_method_6_code, 3, (some .int))
theorem cw_Seizings_tellOf : Cond.code M_Seizings_tellOf.1 M_Seizings_tellOf.2.1 M_Seizings_tellOf.2.2.1 M_Seizings_tellOf.2.2.2 ∈ TS := mTS (List.mem_of_getElem? (i := 1145) (by decide +kernel)) (by decide +kernel)
def tb_Seizings_tellOf : List (Nat × Instr × Nat) := [(0, .iload_n 2, 1), (1, .tableswitch 81 0 5 #[39, 46, 53, 60, 67, 74], 39), (40, .aload_n 0, 1), (41, .getfield 11, 3), (44, .iload_n 1, 1), (45, .iaload, 1), (46, .ireturn, 1), (47, .aload_n 0, 1), (48, .getfield 15, 3), (51, .iload_n 1, 1), (52, .iaload, 1), (53, .ireturn, 1), (54, .aload_n 0, 1), (55, .getfield 18, 3), (58, .iload_n 1, 1), (59, .iaload, 1), (60, .ireturn, 1), (61, .aload_n 0, 1), (62, .getfield 21, 3), (65, .iload_n 1, 1), (66, .iaload, 1), (67, .ireturn, 1), (68, .aload_n 0, 1), (69, .getfield 24, 3), (72, .iload_n 1, 1), (73, .iaload, 1), (74, .ireturn, 1), (75, .aload_n 0, 1), (76, .getfield 27, 3), (79, .iload_n 1, 1), (80, .iaload, 1), (81, .ireturn, 1), (82, .bipush (-2), 2), (84, .ireturn, 1)]
theorem D_Seizings_tellOf (i : Nat) {pc len : Nat} {ins : Instr} (hi : tb_Seizings_tellOf[i]? = some (pc, ins, len)) : decode M_Seizings_tellOf.2.1 pc = .ok (ins, len) := dec_of (by decide +kernel) i hi
def f_Seizings_tellOf (G : GS) (a1 : Int) (a2 : Int) : Option (Int) :=
  if a2 = 0 then
    gd (0 ≤ a1 ∧ a1 < 100) <|
    some (gi G 39 a1.toNat)
  else
    if a2 = 1 then
      gd (0 ≤ a1 ∧ a1 < 100) <|
      some (gi G 40 a1.toNat)
    else
      if a2 = 2 then
        gd (0 ≤ a1 ∧ a1 < 100) <|
        some (gi G 41 a1.toNat)
      else
        if a2 = 3 then
          gd (0 ≤ a1 ∧ a1 < 100) <|
          some (gi G 42 a1.toNat)
        else
          if a2 = 4 then
            gd (0 ≤ a1 ∧ a1 < 100) <|
            some (gi G 43 a1.toNat)
          else
            if a2 = 5 then
              gd (0 ≤ a1 ∧ a1 < 100) <|
              some (gi G 44 a1.toNat)
            else
              some (-2)
theorem c_Seizings_tellOf {X : XT} {G : GS} {a1 : Int} {a2 : Int} {r : Int} (ha1 : wr a1 = a1) (ha2 : wr a2 = a2) (h : f_Seizings_tellOf G a1 a2 = some r) : Call X true 6 0 0 M_Seizings_tellOf [rf X 38, vi a1, vi a2] NC G (Ri r G) := by
  refine Call_of_J cw_Seizings_tellOf (by decide +kernel) (Nat.le_of_ble_eq_true rfl) ?_
  unfold f_Seizings_tellOf at h
  show J X true 6 0 0 M_Seizings_tellOf (Ri r G) NC 0 0 0 [(0, rf X 38), (1, vi a1), (2, vi a2)] [] G
  refine j_iloadn (k := 2) (D_Seizings_tellOf 0 rfl) rfl rfl ?_
  by_cases c1 : a2 = 0
  · replace h := ite_t h c1
    refine j_tIn (tgt := 40) (D_Seizings_tellOf 1 rfl) (ha2) c1 (by decide) (by decide) rfl rfl ?_
    refine j_aloadn (k := 0) (D_Seizings_tellOf 2 rfl) rfl rfl ?_
    refine j_getR rfl fa_Seizings_11 kd_38 lc_38 (by decide) rfl fx_38_0 (by decide) (D_Seizings_tellOf 3 rfl) ?_
    refine j_iloadn (k := 1) (D_Seizings_tellOf 4 rfl) rfl rfl ?_
    have g1 := gd_c h
    replace h := gd_s h
    refine j_iald (NI := 100) (D_Seizings_tellOf 5 rfl) kd_39 lc_39 (ha1) rfl g1.1 g1.2 ?_
    exact j_iret (D_Seizings_tellOf 6 rfl) rfl (wr_gi _ _ _) rfl rfl (leafIo h (wr_n (wr_gi _ _ _)))
  · replace h := ite_f h c1
    by_cases c2 : a2 = 1
    · replace h := ite_t h c2
      refine j_tIn (tgt := 47) (D_Seizings_tellOf 1 rfl) (ha2) c2 (by decide) (by decide) rfl rfl ?_
      refine j_aloadn (k := 0) (D_Seizings_tellOf 7 rfl) rfl rfl ?_
      refine j_getR rfl fa_Seizings_15 kd_38 lc_38 (by decide) rfl fx_38_1 (by decide) (D_Seizings_tellOf 8 rfl) ?_
      refine j_iloadn (k := 1) (D_Seizings_tellOf 9 rfl) rfl rfl ?_
      have g2 := gd_c h
      replace h := gd_s h
      refine j_iald (NI := 100) (D_Seizings_tellOf 10 rfl) kd_40 lc_40 (ha1) rfl g2.1 g2.2 ?_
      exact j_iret (D_Seizings_tellOf 11 rfl) rfl (wr_gi _ _ _) rfl rfl (leafIo h (wr_n (wr_gi _ _ _)))
    · replace h := ite_f h c2
      by_cases c3 : a2 = 2
      · replace h := ite_t h c3
        refine j_tIn (tgt := 54) (D_Seizings_tellOf 1 rfl) (ha2) c3 (by decide) (by decide) rfl rfl ?_
        refine j_aloadn (k := 0) (D_Seizings_tellOf 12 rfl) rfl rfl ?_
        refine j_getR rfl fa_Seizings_18 kd_38 lc_38 (by decide) rfl fx_38_2 (by decide) (D_Seizings_tellOf 13 rfl) ?_
        refine j_iloadn (k := 1) (D_Seizings_tellOf 14 rfl) rfl rfl ?_
        have g3 := gd_c h
        replace h := gd_s h
        refine j_iald (NI := 100) (D_Seizings_tellOf 15 rfl) kd_41 lc_41 (ha1) rfl g3.1 g3.2 ?_
        exact j_iret (D_Seizings_tellOf 16 rfl) rfl (wr_gi _ _ _) rfl rfl (leafIo h (wr_n (wr_gi _ _ _)))
      · replace h := ite_f h c3
        by_cases c4 : a2 = 3
        · replace h := ite_t h c4
          refine j_tIn (tgt := 61) (D_Seizings_tellOf 1 rfl) (ha2) c4 (by decide) (by decide) rfl rfl ?_
          refine j_aloadn (k := 0) (D_Seizings_tellOf 17 rfl) rfl rfl ?_
          refine j_getR rfl fa_Seizings_21 kd_38 lc_38 (by decide) rfl fx_38_3 (by decide) (D_Seizings_tellOf 18 rfl) ?_
          refine j_iloadn (k := 1) (D_Seizings_tellOf 19 rfl) rfl rfl ?_
          have g4 := gd_c h
          replace h := gd_s h
          refine j_iald (NI := 100) (D_Seizings_tellOf 20 rfl) kd_42 lc_42 (ha1) rfl g4.1 g4.2 ?_
          exact j_iret (D_Seizings_tellOf 21 rfl) rfl (wr_gi _ _ _) rfl rfl (leafIo h (wr_n (wr_gi _ _ _)))
        · replace h := ite_f h c4
          by_cases c5 : a2 = 4
          · replace h := ite_t h c5
            refine j_tIn (tgt := 68) (D_Seizings_tellOf 1 rfl) (ha2) c5 (by decide) (by decide) rfl rfl ?_
            refine j_aloadn (k := 0) (D_Seizings_tellOf 22 rfl) rfl rfl ?_
            refine j_getR rfl fa_Seizings_24 kd_38 lc_38 (by decide) rfl fx_38_4 (by decide) (D_Seizings_tellOf 23 rfl) ?_
            refine j_iloadn (k := 1) (D_Seizings_tellOf 24 rfl) rfl rfl ?_
            have g5 := gd_c h
            replace h := gd_s h
            refine j_iald (NI := 100) (D_Seizings_tellOf 25 rfl) kd_43 lc_43 (ha1) rfl g5.1 g5.2 ?_
            exact j_iret (D_Seizings_tellOf 26 rfl) rfl (wr_gi _ _ _) rfl rfl (leafIo h (wr_n (wr_gi _ _ _)))
          · replace h := ite_f h c5
            by_cases c6 : a2 = 5
            · replace h := ite_t h c6
              refine j_tIn (tgt := 75) (D_Seizings_tellOf 1 rfl) (ha2) c6 (by decide) (by decide) rfl rfl ?_
              refine j_aloadn (k := 0) (D_Seizings_tellOf 27 rfl) rfl rfl ?_
              refine j_getR rfl fa_Seizings_27 kd_38 lc_38 (by decide) rfl fx_38_5 (by decide) (D_Seizings_tellOf 28 rfl) ?_
              refine j_iloadn (k := 1) (D_Seizings_tellOf 29 rfl) rfl rfl ?_
              have g6 := gd_c h
              replace h := gd_s h
              refine j_iald (NI := 100) (D_Seizings_tellOf 30 rfl) kd_44 lc_44 (ha1) rfl g6.1 g6.2 ?_
              exact j_iret (D_Seizings_tellOf 31 rfl) rfl (wr_gi _ _ _) rfl rfl (leafIo h (wr_n (wr_gi _ _ _)))
            · replace h := ite_f h c6
              refine j_tOut (tgt := 82) (D_Seizings_tellOf 1 rfl) (ha2) (by omega) rfl ?_
              refine j_bipush (v := (-2)) (D_Seizings_tellOf 32 rfl) rfl ?_
              exact j_iret (D_Seizings_tellOf 33 rfl) rfl (wr_lit rfl) rfl rfl (leafIo h (wr_n (wr_lit rfl)))
abbrev M_Hall_seizing : MI := (⟨"InquestHall", "seizing", "(II)I"⟩, prog_1_method_24_code, 3, (some .int))
theorem cw_Hall_seizing : Cond.code M_Hall_seizing.1 M_Hall_seizing.2.1 M_Hall_seizing.2.2.1 M_Hall_seizing.2.2.2 ∈ TS := mTS (List.mem_of_getElem? (i := 1140) (by decide +kernel)) (by decide +kernel)
theorem lk_Hall_296 : Cond.methodLink "InquestHall" 296 M_Seizings_has.1 ∈ TS := mTS (List.mem_of_getElem? (i := 1141) (by decide +kernel)) (by decide +kernel)
theorem lk_Hall_297 : Cond.methodLink "InquestHall" 297 M_Seizings_tellOf.1 ∈ TS := mTS (List.mem_of_getElem? (i := 1142) (by decide +kernel)) (by decide +kernel)
theorem mok_Seizings_tellOf : MOK M_Seizings_tellOf 2 := ⟨mTS (List.mem_of_getElem? (i := 1143) (by decide +kernel)) (by decide +kernel), mTS (List.mem_of_getElem? (i := 1144) (by decide +kernel)) (by decide +kernel), mTS (List.mem_of_getElem? (i := 136) (by decide +kernel)) (by decide +kernel), cw_Seizings_tellOf, ⟨by decide, by decide, by decide +kernel⟩, by decide +kernel, by decide⟩
def tb_Hall_seizing : List (Nat × Instr × Nat) := [(0, .aload_n 0, 1), (1, .getfield 74, 3), (4, .iload_n 1, 1), (5, .invokevirtual 296, 3), (8, .ifCond .eq 15, 3), (11, .aload_n 0, 1), (12, .getfield 74, 3), (15, .iload_n 1, 1), (16, .iload_n 2, 1), (17, .invokevirtual 297, 3), (20, .goto 5, 3), (23, .bipush (-2), 2), (25, .ireturn, 1)]
theorem D_Hall_seizing (i : Nat) {pc len : Nat} {ins : Instr} (hi : tb_Hall_seizing[i]? = some (pc, ins, len)) : decode M_Hall_seizing.2.1 pc = .ok (ins, len) := dec_of (by decide +kernel) i hi
def f_Hall_seizing (G : GS) (a1 : Int) (a2 : Int) : Option (Int) :=
  (f_Seizings_has G a1).bind fun q1 =>
  if q1 = 0 then
    some (-2)
  else
    (f_Seizings_tellOf G a1 a2).bind fun q2 =>
    some q2
theorem c_Hall_seizing {X : XT} {G : GS} {a1 : Int} {a2 : Int} {r : Int} (ha1 : wr a1 = a1) (ha2 : wr a2 = a2) (h : f_Hall_seizing G a1 a2 = some r) : Call X true 7 0 0 M_Hall_seizing [rf X 0, vi a1, vi a2] NC G (Ri r G) := by
  refine Call_of_J cw_Hall_seizing (by decide +kernel) (Nat.le_of_ble_eq_true rfl) ?_
  unfold f_Hall_seizing at h
  show J X true 7 0 0 M_Hall_seizing (Ri r G) NC 0 0 0 [(0, rf X 0), (1, vi a1), (2, vi a2)] [] G
  refine j_aloadn (k := 0) (D_Hall_seizing 0 rfl) rfl rfl ?_
  refine j_getR rfl fa_Hall_74 kd_0 lc_0 (by decide) rfl fx_0_8 (by decide) (D_Hall_seizing 1 rfl) ?_
  refine j_iloadn (k := 1) (D_Hall_seizing 2 rfl) rfl rfl ?_
  obtain ⟨q1, e1, h⟩ := Option.bind_eq_some_iff.mp h
  refine j_cVz (c_Seizings_has (ha1) e1) rfl lk_Hall_296 mok_Seizings_has kd_38 lc_38 rfl (by decide) rfl rfl (Nat.le_of_ble_eq_true rfl) (D_Hall_seizing 3 rfl) (fun w1 bw1 => ?_)
  refine j_if_eq (tgt := 23) (D_Hall_seizing 4 rfl) rfl (w1) (fun c1 => ?_) (fun c1 => ?_)
  · replace h := ite_t h c1
    refine j_bipush (v := (-2)) (D_Hall_seizing 11 rfl) rfl ?_
    exact j_iret (D_Hall_seizing 12 rfl) rfl (wr_lit rfl) rfl rfl (leafIo h (wr_n (wr_lit rfl)))
  · replace h := ite_f h c1
    refine j_aloadn (k := 0) (D_Hall_seizing 5 rfl) rfl rfl ?_
    refine j_getR rfl fa_Hall_74 kd_0 lc_0 (by decide) rfl fx_0_8 (by decide) (D_Hall_seizing 6 rfl) ?_
    refine j_iloadn (k := 1) (D_Hall_seizing 7 rfl) rfl rfl ?_
    refine j_iloadn (k := 2) (D_Hall_seizing 8 rfl) rfl rfl ?_
    obtain ⟨q2, e2, h⟩ := Option.bind_eq_some_iff.mp h
    refine j_cVi (c_Seizings_tellOf (ha1) (ha2) e2) rfl lk_Hall_297 mok_Seizings_tellOf kd_38 lc_38 rfl (by decide) rfl rfl (Nat.le_of_ble_eq_true rfl) (D_Hall_seizing 9 rfl) (fun w2 => ?_)
    refine j_goto (tgt := 25) (D_Hall_seizing 10 rfl) rfl ?_
    exact j_iret (D_Hall_seizing 12 rfl) rfl (w2) rfl rfl (leafIo h (wr_n (w2)))
abbrev M_Model_seizing : MI := (⟨"InquestHallModel", "seizing", "(II)I"⟩, prog_14_method_83_code, 3, (some .int))
theorem cw_Model_seizing : Cond.code M_Model_seizing.1 M_Model_seizing.2.1 M_Model_seizing.2.2.1 M_Model_seizing.2.2.2 ∈ TS := mTS (List.mem_of_getElem? (i := 1928) (by decide +kernel)) (by decide +kernel)
def tb_Model_seizing : List (Nat × Instr × Nat) := [(0, .aload_n 0, 1), (1, .iload_n 1, 1), (2, .invokevirtual 534, 3), (5, .ifCond .ne 6, 3), (8, .bipush (-2), 2), (10, .ireturn, 1), (11, .iload_n 2, 1), (12, .tableswitch 82 0 5 #[40, 47, 54, 61, 68, 75], 40), (52, .aload_n 0, 1), (53, .getfield 139, 3), (56, .iload_n 1, 1), (57, .iaload, 1), (58, .ireturn, 1), (59, .aload_n 0, 1), (60, .getfield 142, 3), (63, .iload_n 1, 1), (64, .iaload, 1), (65, .ireturn, 1), (66, .aload_n 0, 1), (67, .getfield 145, 3), (70, .iload_n 1, 1), (71, .iaload, 1), (72, .ireturn, 1), (73, .aload_n 0, 1), (74, .getfield 148, 3), (77, .iload_n 1, 1), (78, .iaload, 1), (79, .ireturn, 1), (80, .aload_n 0, 1), (81, .getfield 151, 3), (84, .iload_n 1, 1), (85, .iaload, 1), (86, .ireturn, 1), (87, .aload_n 0, 1), (88, .getfield 154, 3), (91, .iload_n 1, 1), (92, .iaload, 1), (93, .ireturn, 1), (94, .bipush (-2), 2), (96, .ireturn, 1)]
theorem D_Model_seizing (i : Nat) {pc len : Nat} {ins : Instr} (hi : tb_Model_seizing[i]? = some (pc, ins, len)) : decode M_Model_seizing.2.1 pc = .ok (ins, len) := dec_of (by decide +kernel) i hi
def f_Model_seizing (G : GS) (a1 : Int) (a2 : Int) : Option (Int) :=
  (f_Model_isSeizing G a1).bind fun q1 =>
  if q1 = 0 then
    some (-2)
  else
    if a2 = 0 then
      gd (0 ≤ a1 ∧ a1 < 100) <|
      some (gi G 123 a1.toNat)
    else
      if a2 = 1 then
        gd (0 ≤ a1 ∧ a1 < 100) <|
        some (gi G 124 a1.toNat)
      else
        if a2 = 2 then
          gd (0 ≤ a1 ∧ a1 < 100) <|
          some (gi G 125 a1.toNat)
        else
          if a2 = 3 then
            gd (0 ≤ a1 ∧ a1 < 100) <|
            some (gi G 126 a1.toNat)
          else
            if a2 = 4 then
              gd (0 ≤ a1 ∧ a1 < 100) <|
              some (gi G 127 a1.toNat)
            else
              if a2 = 5 then
                gd (0 ≤ a1 ∧ a1 < 100) <|
                some (gi G 128 a1.toNat)
              else
                some (-2)
theorem c_Model_seizing {X : XT} {G : GS} {a1 : Int} {a2 : Int} {r : Int} (ha1 : wr a1 = a1) (ha2 : wr a2 = a2) (h : f_Model_seizing G a1 a2 = some r) : Call X true 8 0 0 M_Model_seizing [rf X 81, vi a1, vi a2] NC G (Ri r G) := by
  refine Call_of_J cw_Model_seizing (by decide +kernel) (Nat.le_of_ble_eq_true rfl) ?_
  unfold f_Model_seizing at h
  show J X true 8 0 0 M_Model_seizing (Ri r G) NC 0 0 0 [(0, rf X 81), (1, vi a1), (2, vi a2)] [] G
  refine j_aloadn (k := 0) (D_Model_seizing 0 rfl) rfl rfl ?_
  refine j_iloadn (k := 1) (D_Model_seizing 1 rfl) rfl rfl ?_
  obtain ⟨q1, e1, h⟩ := Option.bind_eq_some_iff.mp h
  refine j_cVz (c_Model_isSeizing (ha1) e1) rfl lk_Model_534 mok_Model_isSeizing kd_81 lc_81 rfl (by decide) rfl rfl (Nat.le_of_ble_eq_true rfl) (D_Model_seizing 2 rfl) (fun w1 bw1 => ?_)
  refine j_if_ne (tgt := 11) (D_Model_seizing 3 rfl) rfl (w1) (fun c1 => ?_) (fun c1 => ?_)
  · replace h := ite_f h c1
    refine j_iloadn (k := 2) (D_Model_seizing 6 rfl) rfl rfl ?_
    by_cases c2 : a2 = 0
    · replace h := ite_t h c2
      refine j_tIn (tgt := 52) (D_Model_seizing 7 rfl) (ha2) c2 (by decide) (by decide) rfl rfl ?_
      refine j_aloadn (k := 0) (D_Model_seizing 8 rfl) rfl rfl ?_
      refine j_getR rfl fa_Model_139 kd_81 lc_81 (by decide) rfl fx_81_67 (by decide) (D_Model_seizing 9 rfl) ?_
      refine j_iloadn (k := 1) (D_Model_seizing 10 rfl) rfl rfl ?_
      have g1 := gd_c h
      replace h := gd_s h
      refine j_iald (NI := 100) (D_Model_seizing 11 rfl) kd_123 lc_123 (ha1) rfl g1.1 g1.2 ?_
      exact j_iret (D_Model_seizing 12 rfl) rfl (wr_gi _ _ _) rfl rfl (leafIo h (wr_n (wr_gi _ _ _)))
    · replace h := ite_f h c2
      by_cases c3 : a2 = 1
      · replace h := ite_t h c3
        refine j_tIn (tgt := 59) (D_Model_seizing 7 rfl) (ha2) c3 (by decide) (by decide) rfl rfl ?_
        refine j_aloadn (k := 0) (D_Model_seizing 13 rfl) rfl rfl ?_
        refine j_getR rfl fa_Model_142 kd_81 lc_81 (by decide) rfl fx_81_68 (by decide) (D_Model_seizing 14 rfl) ?_
        refine j_iloadn (k := 1) (D_Model_seizing 15 rfl) rfl rfl ?_
        have g2 := gd_c h
        replace h := gd_s h
        refine j_iald (NI := 100) (D_Model_seizing 16 rfl) kd_124 lc_124 (ha1) rfl g2.1 g2.2 ?_
        exact j_iret (D_Model_seizing 17 rfl) rfl (wr_gi _ _ _) rfl rfl (leafIo h (wr_n (wr_gi _ _ _)))
      · replace h := ite_f h c3
        by_cases c4 : a2 = 2
        · replace h := ite_t h c4
          refine j_tIn (tgt := 66) (D_Model_seizing 7 rfl) (ha2) c4 (by decide) (by decide) rfl rfl ?_
          refine j_aloadn (k := 0) (D_Model_seizing 18 rfl) rfl rfl ?_
          refine j_getR rfl fa_Model_145 kd_81 lc_81 (by decide) rfl fx_81_69 (by decide) (D_Model_seizing 19 rfl) ?_
          refine j_iloadn (k := 1) (D_Model_seizing 20 rfl) rfl rfl ?_
          have g3 := gd_c h
          replace h := gd_s h
          refine j_iald (NI := 100) (D_Model_seizing 21 rfl) kd_125 lc_125 (ha1) rfl g3.1 g3.2 ?_
          exact j_iret (D_Model_seizing 22 rfl) rfl (wr_gi _ _ _) rfl rfl (leafIo h (wr_n (wr_gi _ _ _)))
        · replace h := ite_f h c4
          by_cases c5 : a2 = 3
          · replace h := ite_t h c5
            refine j_tIn (tgt := 73) (D_Model_seizing 7 rfl) (ha2) c5 (by decide) (by decide) rfl rfl ?_
            refine j_aloadn (k := 0) (D_Model_seizing 23 rfl) rfl rfl ?_
            refine j_getR rfl fa_Model_148 kd_81 lc_81 (by decide) rfl fx_81_70 (by decide) (D_Model_seizing 24 rfl) ?_
            refine j_iloadn (k := 1) (D_Model_seizing 25 rfl) rfl rfl ?_
            have g4 := gd_c h
            replace h := gd_s h
            refine j_iald (NI := 100) (D_Model_seizing 26 rfl) kd_126 lc_126 (ha1) rfl g4.1 g4.2 ?_
            exact j_iret (D_Model_seizing 27 rfl) rfl (wr_gi _ _ _) rfl rfl (leafIo h (wr_n (wr_gi _ _ _)))
          · replace h := ite_f h c5
            by_cases c6 : a2 = 4
            · replace h := ite_t h c6
              refine j_tIn (tgt := 80) (D_Model_seizing 7 rfl) (ha2) c6 (by decide) (by decide) rfl rfl ?_
              refine j_aloadn (k := 0) (D_Model_seizing 28 rfl) rfl rfl ?_
              refine j_getR rfl fa_Model_151 kd_81 lc_81 (by decide) rfl fx_81_71 (by decide) (D_Model_seizing 29 rfl) ?_
              refine j_iloadn (k := 1) (D_Model_seizing 30 rfl) rfl rfl ?_
              have g5 := gd_c h
              replace h := gd_s h
              refine j_iald (NI := 100) (D_Model_seizing 31 rfl) kd_127 lc_127 (ha1) rfl g5.1 g5.2 ?_
              exact j_iret (D_Model_seizing 32 rfl) rfl (wr_gi _ _ _) rfl rfl (leafIo h (wr_n (wr_gi _ _ _)))
            · replace h := ite_f h c6
              by_cases c7 : a2 = 5
              · replace h := ite_t h c7
                refine j_tIn (tgt := 87) (D_Model_seizing 7 rfl) (ha2) c7 (by decide) (by decide) rfl rfl ?_
                refine j_aloadn (k := 0) (D_Model_seizing 33 rfl) rfl rfl ?_
                refine j_getR rfl fa_Model_154 kd_81 lc_81 (by decide) rfl fx_81_72 (by decide) (D_Model_seizing 34 rfl) ?_
                refine j_iloadn (k := 1) (D_Model_seizing 35 rfl) rfl rfl ?_
                have g6 := gd_c h
                replace h := gd_s h
                refine j_iald (NI := 100) (D_Model_seizing 36 rfl) kd_128 lc_128 (ha1) rfl g6.1 g6.2 ?_
                exact j_iret (D_Model_seizing 37 rfl) rfl (wr_gi _ _ _) rfl rfl (leafIo h (wr_n (wr_gi _ _ _)))
              · replace h := ite_f h c7
                refine j_tOut (tgt := 94) (D_Model_seizing 7 rfl) (ha2) (by omega) rfl ?_
                refine j_bipush (v := (-2)) (D_Model_seizing 38 rfl) rfl ?_
                exact j_iret (D_Model_seizing 39 rfl) rfl (wr_lit rfl) rfl rfl (leafIo h (wr_n (wr_lit rfl)))
  · replace h := ite_t h c1
    refine j_bipush (v := (-2)) (D_Model_seizing 4 rfl) rfl ?_
    exact j_iret (D_Model_seizing 5 rfl) rfl (wr_lit rfl) rfl rfl (leafIo h (wr_n (wr_lit rfl)))
abbrev M_Hall_holder : MI := (⟨"InquestHall", "holder", "(III)I"⟩, prog_1_method_25_code, 4, (some .int))
theorem cw_Hall_holder : Cond.code M_Hall_holder.1 M_Hall_holder.2.1 M_Hall_holder.2.2.1 M_Hall_holder.2.2.2 ∈ TS := mTS (List.mem_of_getElem? (i := 1149) (by decide +kernel)) (by decide +kernel)
def tb_Hall_holder : List (Nat × Instr × Nat) := [(0, .aload_n 0, 1), (1, .getfield 19, 3), (4, .iload_n 1, 1), (5, .invokevirtual 150, 3), (8, .ifCond .eq 22, 3), (11, .iload_n 2, 1), (12, .invokestatic 178, 3), (15, .ifCond .eq 15, 3), (18, .iload_n 3, 1), (19, .ifCond .lt 11, 3), (22, .iload_n 3, 1), (23, .aload_n 0, 1), (24, .getfield 104, 3), (27, .if_icmp .le 6, 3), (30, .bipush (-3), 2), (32, .ireturn, 1), (33, .aload_n 0, 1), (34, .getfield 74, 3), (37, .iload_n 1, 1), (38, .iload_n 2, 1), (39, .iload_n 3, 1), (40, .invokevirtual 300, 3), (43, .ireturn, 1)]
theorem D_Hall_holder (i : Nat) {pc len : Nat} {ins : Instr} (hi : tb_Hall_holder[i]? = some (pc, ins, len)) : decode M_Hall_holder.2.1 pc = .ok (ins, len) := dec_of (by decide +kernel) i hi
def f_Hall_holder (G : GS) (a1 : Int) (a2 : Int) (a3 : Int) : Option (Int) :=
  (f_Lands_has G a1).bind fun q1 =>
  if q1 = 0 then
    some (-3)
  else
    (f_Hall_isDay G a2).bind fun q2 =>
    if q2 = 0 then
      some (-3)
    else
      if a3 < 0 then
        some (-3)
      else
        if a3 ≤ gi G 0 14 then
          (f_Seizings_holderAt G a1 a2 a3).bind fun q3 =>
          some q3
        else
          some (-3)
theorem c_Hall_holder {X : XT} {G : GS} {a1 : Int} {a2 : Int} {a3 : Int} {r : Int} (ha1 : wr a1 = a1) (ha2 : wr a2 = a2) (ha3 : wr a3 = a3) (h : f_Hall_holder G a1 a2 a3 = some r) : Call X true 7 0 0 M_Hall_holder [rf X 0, vi a1, vi a2, vi a3] NC G (Ri r G) := by
  refine Call_of_J cw_Hall_holder (by decide +kernel) (Nat.le_of_ble_eq_true rfl) ?_
  unfold f_Hall_holder at h
  show J X true 7 0 0 M_Hall_holder (Ri r G) NC 0 0 0 [(0, rf X 0), (1, vi a1), (2, vi a2), (3, vi a3)] [] G
  refine j_aloadn (k := 0) (D_Hall_holder 0 rfl) rfl rfl ?_
  refine j_getR rfl fa_Hall_19 kd_0 lc_0 (by decide) rfl fx_0_1 (by decide) (D_Hall_holder 1 rfl) ?_
  refine j_iloadn (k := 1) (D_Hall_holder 2 rfl) rfl rfl ?_
  obtain ⟨q1, e1, h⟩ := Option.bind_eq_some_iff.mp h
  refine j_cVz (c_Lands_has (ha1) e1) rfl lk_Hall_150 mok_Lands_has kd_9 lc_9 rfl (by decide) rfl rfl (Nat.le_of_ble_eq_true rfl) (D_Hall_holder 3 rfl) (fun w1 bw1 => ?_)
  refine j_if_eq (tgt := 30) (D_Hall_holder 4 rfl) rfl (w1) (fun c1 => ?_) (fun c1 => ?_)
  · replace h := ite_t h c1
    refine j_bipush (v := (-3)) (D_Hall_holder 14 rfl) rfl ?_
    exact j_iret (D_Hall_holder 15 rfl) rfl (wr_lit rfl) rfl rfl (leafIo h (wr_n (wr_lit rfl)))
  · replace h := ite_f h c1
    refine j_iloadn (k := 2) (D_Hall_holder 5 rfl) rfl rfl ?_
    obtain ⟨q2, e2, h⟩ := Option.bind_eq_some_iff.mp h
    refine j_cSz (c_Hall_isDay (ha2) e2) rfl lk_Hall_178 sok_Hall_isDay (by decide) rfl rfl (Nat.le_of_ble_eq_true rfl) (D_Hall_holder 6 rfl) (fun w2 bw2 => ?_)
    refine j_if_eq (tgt := 30) (D_Hall_holder 7 rfl) rfl (w2) (fun c2 => ?_) (fun c2 => ?_)
    · replace h := ite_t h c2
      refine j_bipush (v := (-3)) (D_Hall_holder 14 rfl) rfl ?_
      exact j_iret (D_Hall_holder 15 rfl) rfl (wr_lit rfl) rfl rfl (leafIo h (wr_n (wr_lit rfl)))
    · replace h := ite_f h c2
      refine j_iloadn (k := 3) (D_Hall_holder 8 rfl) rfl rfl ?_
      refine j_if_lt (tgt := 30) (D_Hall_holder 9 rfl) rfl (ha3) (fun c3 => ?_) (fun c3 => ?_)
      · replace h := ite_t h c3
        refine j_bipush (v := (-3)) (D_Hall_holder 14 rfl) rfl ?_
        exact j_iret (D_Hall_holder 15 rfl) rfl (wr_lit rfl) rfl rfl (leafIo h (wr_n (wr_lit rfl)))
      · replace h := ite_f h c3
        refine j_iloadn (k := 3) (D_Hall_holder 10 rfl) rfl rfl ?_
        refine j_aloadn (k := 0) (D_Hall_holder 11 rfl) rfl rfl ?_
        refine j_getI rfl fa_Hall_104 kd_0 lc_0 (by decide) rfl (D_Hall_holder 12 rfl) ?_
        refine j_ic_le (tgt := 33) (D_Hall_holder 13 rfl) rfl (ha3) (wr_gi _ _ _) (fun c4 => ?_) (fun c4 => ?_)
        · replace h := ite_t h c4
          refine j_aloadn (k := 0) (D_Hall_holder 16 rfl) rfl rfl ?_
          refine j_getR rfl fa_Hall_74 kd_0 lc_0 (by decide) rfl fx_0_8 (by decide) (D_Hall_holder 17 rfl) ?_
          refine j_iloadn (k := 1) (D_Hall_holder 18 rfl) rfl rfl ?_
          refine j_iloadn (k := 2) (D_Hall_holder 19 rfl) rfl rfl ?_
          refine j_iloadn (k := 3) (D_Hall_holder 20 rfl) rfl rfl ?_
          obtain ⟨q3, e3, h⟩ := Option.bind_eq_some_iff.mp h
          refine j_cVi (c_Seizings_holderAt (ha1) (ha2) (ha3) e3) rfl lk_Hall_300 mok_Seizings_holderAt kd_38 lc_38 rfl (by decide) rfl rfl (Nat.le_of_ble_eq_true rfl) (D_Hall_holder 21 rfl) (fun w3 => ?_)
          exact j_iret (D_Hall_holder 22 rfl) rfl (w3) rfl rfl (leafIo h (wr_n (w3)))
        · replace h := ite_f h c4
          refine j_bipush (v := (-3)) (D_Hall_holder 14 rfl) rfl ?_
          exact j_iret (D_Hall_holder 15 rfl) rfl (wr_lit rfl) rfl rfl (leafIo h (wr_n (wr_lit rfl)))
abbrev M_Model_holder : MI := (⟨"InquestHallModel", "holder", "(III)I"⟩, prog_14_method_85_code, 4, (some .int))
theorem cw_Model_holder : Cond.code M_Model_holder.1 M_Model_holder.2.1 M_Model_holder.2.2.1 M_Model_holder.2.2.2 ∈ TS := mTS (List.mem_of_getElem? (i := 1932) (by decide +kernel)) (by decide +kernel)
def tb_Model_holder : List (Nat × Instr × Nat) := [(0, .aload_n 0, 1), (1, .iload_n 1, 1), (2, .invokevirtual 219, 3), (5, .ifCond .eq 32, 3), (8, .iload_n 2, 1), (9, .invokestatic 202, 3), (12, .ifCond .eq 25, 3), (15, .iload_n 3, 1), (16, .iconst 0, 1), (17, .aload_n 0, 1), (18, .getfield 192, 3), (21, .invokestatic 188, 3), (24, .ifCond .eq 13, 3), (27, .aload_n 0, 1), (28, .iload_n 1, 1), (29, .iload_n 2, 1), (30, .iload_n 3, 1), (31, .invokevirtual 493, 3), (34, .goto 5, 3), (37, .bipush (-3), 2), (39, .ireturn, 1)]
theorem D_Model_holder (i : Nat) {pc len : Nat} {ins : Instr} (hi : tb_Model_holder[i]? = some (pc, ins, len)) : decode M_Model_holder.2.1 pc = .ok (ins, len) := dec_of (by decide +kernel) i hi
def f_Model_holder (G : GS) (a1 : Int) (a2 : Int) (a3 : Int) : Option (Int) :=
  (f_Model_isLand G a1).bind fun q1 =>
  if q1 = 0 then
    some (-3)
  else
    (f_Model_isDay G a2).bind fun q2 =>
    if q2 = 0 then
      some (-3)
    else
      (f_Model_isIn G a3 0 (gi G 81 0)).bind fun q3 =>
      if q3 = 0 then
        some (-3)
      else
        (f_Model_holderOf G a1 a2 a3).bind fun q4 =>
        some q4
theorem c_Model_holder {X : XT} {G : GS} {a1 : Int} {a2 : Int} {a3 : Int} {r : Int} (ha1 : wr a1 = a1) (ha2 : wr a2 = a2) (ha3 : wr a3 = a3) (h : f_Model_holder G a1 a2 a3 = some r) : Call X true 8 0 0 M_Model_holder [rf X 81, vi a1, vi a2, vi a3] NC G (Ri r G) := by
  refine Call_of_J cw_Model_holder (by decide +kernel) (Nat.le_of_ble_eq_true rfl) ?_
  unfold f_Model_holder at h
  show J X true 8 0 0 M_Model_holder (Ri r G) NC 0 0 0 [(0, rf X 81), (1, vi a1), (2, vi a2), (3, vi a3)] [] G
  refine j_aloadn (k := 0) (D_Model_holder 0 rfl) rfl rfl ?_
  refine j_iloadn (k := 1) (D_Model_holder 1 rfl) rfl rfl ?_
  obtain ⟨q1, e1, h⟩ := Option.bind_eq_some_iff.mp h
  refine j_cVz (c_Model_isLand (ha1) e1) rfl lk_Model_219 mok_Model_isLand kd_81 lc_81 rfl (by decide) rfl rfl (Nat.le_of_ble_eq_true rfl) (D_Model_holder 2 rfl) (fun w1 bw1 => ?_)
  refine j_if_eq (tgt := 37) (D_Model_holder 3 rfl) rfl (w1) (fun c1 => ?_) (fun c1 => ?_)
  · replace h := ite_t h c1
    refine j_bipush (v := (-3)) (D_Model_holder 19 rfl) rfl ?_
    exact j_iret (D_Model_holder 20 rfl) rfl (wr_lit rfl) rfl rfl (leafIo h (wr_n (wr_lit rfl)))
  · replace h := ite_f h c1
    refine j_iloadn (k := 2) (D_Model_holder 4 rfl) rfl rfl ?_
    obtain ⟨q2, e2, h⟩ := Option.bind_eq_some_iff.mp h
    refine j_cSz (c_Model_isDay (ha2) e2) rfl lk_Model_202 sok_Model_isDay (by decide) rfl rfl (Nat.le_of_ble_eq_true rfl) (D_Model_holder 5 rfl) (fun w2 bw2 => ?_)
    refine j_if_eq (tgt := 37) (D_Model_holder 6 rfl) rfl (w2) (fun c2 => ?_) (fun c2 => ?_)
    · replace h := ite_t h c2
      refine j_bipush (v := (-3)) (D_Model_holder 19 rfl) rfl ?_
      exact j_iret (D_Model_holder 20 rfl) rfl (wr_lit rfl) rfl rfl (leafIo h (wr_n (wr_lit rfl)))
    · replace h := ite_f h c2
      refine j_iloadn (k := 3) (D_Model_holder 7 rfl) rfl rfl ?_
      refine j_iconst (v := 0) (D_Model_holder 8 rfl) rfl ?_
      refine j_aloadn (k := 0) (D_Model_holder 9 rfl) rfl rfl ?_
      refine j_getI rfl fa_Model_192 kd_81 lc_81 (by decide) rfl (D_Model_holder 10 rfl) ?_
      obtain ⟨q3, e3, h⟩ := Option.bind_eq_some_iff.mp h
      refine j_cSz (c_Model_isIn (ha3) (wr_lit rfl) (wr_gi _ _ _) e3) rfl lk_Model_188 sok_Model_isIn (by decide) rfl rfl (Nat.le_of_ble_eq_true rfl) (D_Model_holder 11 rfl) (fun w3 bw3 => ?_)
      refine j_if_eq (tgt := 37) (D_Model_holder 12 rfl) rfl (w3) (fun c3 => ?_) (fun c3 => ?_)
      · replace h := ite_t h c3
        refine j_bipush (v := (-3)) (D_Model_holder 19 rfl) rfl ?_
        exact j_iret (D_Model_holder 20 rfl) rfl (wr_lit rfl) rfl rfl (leafIo h (wr_n (wr_lit rfl)))
      · replace h := ite_f h c3
        refine j_aloadn (k := 0) (D_Model_holder 13 rfl) rfl rfl ?_
        refine j_iloadn (k := 1) (D_Model_holder 14 rfl) rfl rfl ?_
        refine j_iloadn (k := 2) (D_Model_holder 15 rfl) rfl rfl ?_
        refine j_iloadn (k := 3) (D_Model_holder 16 rfl) rfl rfl ?_
        obtain ⟨q4, e4, h⟩ := Option.bind_eq_some_iff.mp h
        refine j_cVi (c_Model_holderOf (ha1) (ha2) (ha3) e4) rfl lk_Model_493 mok_Model_holderOf kd_81 lc_81 rfl (by decide) rfl rfl (Nat.le_of_ble_eq_true rfl) (D_Model_holder 17 rfl) (fun w4 => ?_)
        refine j_goto (tgt := 39) (D_Model_holder 18 rfl) rfl ?_
        exact j_iret (D_Model_holder 20 rfl) rfl (w4) rfl rfl (leafIo h (wr_n (w4)))
abbrev M_Hall_event : MI := (⟨"InquestHall", "event", "(II)Z"⟩, prog_1_method_26_code, 3, (some .boolean))
theorem cw_Hall_event : Cond.code M_Hall_event.1 M_Hall_event.2.1 M_Hall_event.2.2.1 M_Hall_event.2.2.2 ∈ TS := mTS (List.mem_of_getElem? (i := 1153) (by decide +kernel)) (by decide +kernel)
theorem fa_Hall_303 : FA "InquestHall" 303 5 0 true (.array .int) := ⟨_, _, _, _, ok_Remembered, by decide, mTS (List.mem_of_getElem? (i := 373) (by decide +kernel)) (by decide +kernel), rfl, rfl⟩
theorem fx_23_0 {G : GS} (w : WF true NC G) : G.2.2 23 0 = 24 := w.2 rfl (23, 0, 24) (by decide)
theorem kd_24 : kd 24 = (0, 16) := rfl
theorem lc_24 : 24 < NC := by decide
def tb_Hall_event : List (Nat × Instr × Nat) := [(0, .iload_n 1, 1), (1, .ifCond .lt 16, 3), (4, .iload_n 1, 1), (5, .bipush 16, 2), (7, .if_icmp .ge 10, 3), (10, .iload_n 2, 1), (11, .invokestatic 178, 3), (14, .ifCond .ne 5, 3), (17, .iconst 0, 1), (18, .ireturn, 1), (19, .aload_n 0, 1), (20, .getfield 42, 3), (23, .getfield 303, 3), (26, .iload_n 1, 1), (27, .iload_n 2, 1), (28, .iastore, 1), (29, .iconst 1, 1), (30, .ireturn, 1)]
theorem D_Hall_event (i : Nat) {pc len : Nat} {ins : Instr} (hi : tb_Hall_event[i]? = some (pc, ins, len)) : decode M_Hall_event.2.1 pc = .ok (ins, len) := dec_of (by decide +kernel) i hi
def f_Hall_event (G : GS) (a1 : Int) (a2 : Int) : Option (Int × GS) :=
  if a1 < 0 then
    some (0, G)
  else
    if 16 ≤ a1 then
      some (0, G)
    else
      (f_Hall_isDay G a2).bind fun q1 =>
      if q1 = 0 then
        some (0, G)
      else
        gd (0 ≤ a1 ∧ a1 < 16) <|
        wG (si G 24 a1.toNat a2) fun G1 =>
        some (1, G1)
theorem c_Hall_event {X : XT} {G : GS} {a1 : Int} {a2 : Int} {r : Int × GS} (ha1 : wr a1 = a1) (ha2 : wr a2 = a2) (h : f_Hall_event G a1 a2 = some r) : Call X true 7 0 0 M_Hall_event [rf X 0, vi a1, vi a2] NC G (Rz r.1 r.2) := by
  refine Call_of_J cw_Hall_event (by decide +kernel) (Nat.le_of_ble_eq_true rfl) ?_
  unfold f_Hall_event at h
  show J X true 7 0 0 M_Hall_event (Rz r.1 r.2) NC 0 0 0 [(0, rf X 0), (1, vi a1), (2, vi a2)] [] G
  refine j_iloadn (k := 1) (D_Hall_event 0 rfl) rfl rfl ?_
  refine j_if_lt (tgt := 17) (D_Hall_event 1 rfl) rfl (ha1) (fun c1 => ?_) (fun c1 => ?_)
  · replace h := ite_t h c1
    refine j_iconst (v := 0) (D_Hall_event 8 rfl) rfl ?_
    exact j_zret (D_Hall_event 9 rfl) rfl (wr_lit rfl) (nz_01 (by decide)) rfl rfl (leafZ h (wr_n (wr_lit rfl)) (by decide))
  · replace h := ite_f h c1
    refine j_iloadn (k := 1) (D_Hall_event 2 rfl) rfl rfl ?_
    refine j_bipush (v := 16) (D_Hall_event 3 rfl) rfl ?_
    refine j_ic_ge (tgt := 17) (D_Hall_event 4 rfl) rfl (ha1) (wr_lit rfl) (fun c2 => ?_) (fun c2 => ?_)
    · replace h := ite_t h c2
      refine j_iconst (v := 0) (D_Hall_event 8 rfl) rfl ?_
      exact j_zret (D_Hall_event 9 rfl) rfl (wr_lit rfl) (nz_01 (by decide)) rfl rfl (leafZ h (wr_n (wr_lit rfl)) (by decide))
    · replace h := ite_f h c2
      refine j_iloadn (k := 2) (D_Hall_event 5 rfl) rfl rfl ?_
      obtain ⟨q1, e1, h⟩ := Option.bind_eq_some_iff.mp h
      refine j_cSz (c_Hall_isDay (ha2) e1) rfl lk_Hall_178 sok_Hall_isDay (by decide) rfl rfl (Nat.le_of_ble_eq_true rfl) (D_Hall_event 6 rfl) (fun w1 bw1 => ?_)
      refine j_if_ne (tgt := 19) (D_Hall_event 7 rfl) rfl (w1) (fun c3 => ?_) (fun c3 => ?_)
      · replace h := ite_f h c3
        refine j_aloadn (k := 0) (D_Hall_event 10 rfl) rfl rfl ?_
        refine j_getR rfl fa_Hall_42 kd_0 lc_0 (by decide) rfl fx_0_4 (by decide) (D_Hall_event 11 rfl) ?_
        refine j_getR rfl fa_Hall_303 kd_23 lc_23 (by decide) rfl fx_23_0 (by decide) (D_Hall_event 12 rfl) ?_
        refine j_iloadn (k := 1) (D_Hall_event 13 rfl) rfl rfl ?_
        refine j_iloadn (k := 2) (D_Hall_event 14 rfl) rfl rfl ?_
        have g1 := gd_c h
        replace h := gd_s h
        refine j_iast (NI := 16) (D_Hall_event 15 rfl) kd_24 lc_24 (ha1) rfl g1.1 g1.2 ?_
        refine j_gen (fun G1 e2 => ?_)
        replace h := wG_at h e2
        refine j_iconst (v := 1) (D_Hall_event 16 rfl) rfl ?_
        exact j_zret (D_Hall_event 17 rfl) rfl (wr_lit rfl) (nz_01 (by decide)) rfl rfl (leafZ h (wr_n (wr_lit rfl)) (by decide))
      · replace h := ite_t h c3
        refine j_iconst (v := 0) (D_Hall_event 8 rfl) rfl ?_
        exact j_zret (D_Hall_event 9 rfl) rfl (wr_lit rfl) (nz_01 (by decide)) rfl rfl (leafZ h (wr_n (wr_lit rfl)) (by decide))
abbrev M_Model_event : MI := (⟨"InquestHallModel", "event", "(II)Z"⟩, prog_14_method_86_code, 3, (some .boolean))
theorem cw_Model_event : Cond.code M_Model_event.1 M_Model_event.2.1 M_Model_event.2.2.1 M_Model_event.2.2.2 ∈ TS := mTS (List.mem_of_getElem? (i := 1936) (by decide +kernel)) (by decide +kernel)
theorem fa_Model_160 : FA "InquestHallModel" 160 12 74 true (.array .int) := ⟨_, _, _, _, ok_Model, by decide, mTS (List.mem_of_getElem? (i := 1375) (by decide +kernel)) (by decide +kernel), rfl, rfl⟩
theorem fx_81_74 {G : GS} (w : WF true NC G) : G.2.2 81 74 = 130 := w.2 rfl (81, 74, 130) (by decide)
theorem kd_130 : kd 130 = (0, 16) := rfl
theorem lc_130 : 130 < NC := by decide
def tb_Model_event : List (Nat × Instr × Nat) := [(0, .iload_n 1, 1), (1, .iconst 0, 1), (2, .bipush 15, 2), (4, .invokestatic 188, 3), (7, .ifCond .eq 10, 3), (10, .iload_n 2, 1), (11, .invokestatic 202, 3), (14, .ifCond .ne 5, 3), (17, .iconst 0, 1), (18, .ireturn, 1), (19, .aload_n 0, 1), (20, .getfield 160, 3), (23, .iload_n 1, 1), (24, .iload_n 2, 1), (25, .iastore, 1), (26, .iconst 1, 1), (27, .ireturn, 1)]
theorem D_Model_event (i : Nat) {pc len : Nat} {ins : Instr} (hi : tb_Model_event[i]? = some (pc, ins, len)) : decode M_Model_event.2.1 pc = .ok (ins, len) := dec_of (by decide +kernel) i hi
def f_Model_event (G : GS) (a1 : Int) (a2 : Int) : Option (Int × GS) :=
  (f_Model_isIn G a1 0 15).bind fun q1 =>
  if q1 = 0 then
    some (0, G)
  else
    (f_Model_isDay G a2).bind fun q2 =>
    if q2 = 0 then
      some (0, G)
    else
      gd (0 ≤ a1 ∧ a1 < 16) <|
      wG (si G 130 a1.toNat a2) fun G1 =>
      some (1, G1)
theorem c_Model_event {X : XT} {G : GS} {a1 : Int} {a2 : Int} {r : Int × GS} (ha1 : wr a1 = a1) (ha2 : wr a2 = a2) (h : f_Model_event G a1 a2 = some r) : Call X true 8 0 0 M_Model_event [rf X 81, vi a1, vi a2] NC G (Rz r.1 r.2) := by
  refine Call_of_J cw_Model_event (by decide +kernel) (Nat.le_of_ble_eq_true rfl) ?_
  unfold f_Model_event at h
  show J X true 8 0 0 M_Model_event (Rz r.1 r.2) NC 0 0 0 [(0, rf X 81), (1, vi a1), (2, vi a2)] [] G
  refine j_iloadn (k := 1) (D_Model_event 0 rfl) rfl rfl ?_
  refine j_iconst (v := 0) (D_Model_event 1 rfl) rfl ?_
  refine j_bipush (v := 15) (D_Model_event 2 rfl) rfl ?_
  obtain ⟨q1, e1, h⟩ := Option.bind_eq_some_iff.mp h
  refine j_cSz (c_Model_isIn (ha1) (wr_lit rfl) (wr_lit rfl) e1) rfl lk_Model_188 sok_Model_isIn (by decide) rfl rfl (Nat.le_of_ble_eq_true rfl) (D_Model_event 3 rfl) (fun w1 bw1 => ?_)
  refine j_if_eq (tgt := 17) (D_Model_event 4 rfl) rfl (w1) (fun c1 => ?_) (fun c1 => ?_)
  · replace h := ite_t h c1
    refine j_iconst (v := 0) (D_Model_event 8 rfl) rfl ?_
    exact j_zret (D_Model_event 9 rfl) rfl (wr_lit rfl) (nz_01 (by decide)) rfl rfl (leafZ h (wr_n (wr_lit rfl)) (by decide))
  · replace h := ite_f h c1
    refine j_iloadn (k := 2) (D_Model_event 5 rfl) rfl rfl ?_
    obtain ⟨q2, e2, h⟩ := Option.bind_eq_some_iff.mp h
    refine j_cSz (c_Model_isDay (ha2) e2) rfl lk_Model_202 sok_Model_isDay (by decide) rfl rfl (Nat.le_of_ble_eq_true rfl) (D_Model_event 6 rfl) (fun w2 bw2 => ?_)
    refine j_if_ne (tgt := 19) (D_Model_event 7 rfl) rfl (w2) (fun c2 => ?_) (fun c2 => ?_)
    · replace h := ite_f h c2
      refine j_aloadn (k := 0) (D_Model_event 10 rfl) rfl rfl ?_
      refine j_getR rfl fa_Model_160 kd_81 lc_81 (by decide) rfl fx_81_74 (by decide) (D_Model_event 11 rfl) ?_
      refine j_iloadn (k := 1) (D_Model_event 12 rfl) rfl rfl ?_
      refine j_iloadn (k := 2) (D_Model_event 13 rfl) rfl rfl ?_
      have g1 := gd_c h
      replace h := gd_s h
      refine j_iast (NI := 16) (D_Model_event 14 rfl) kd_130 lc_130 (ha1) rfl g1.1 g1.2 ?_
      refine j_gen (fun G1 e3 => ?_)
      replace h := wG_at h e3
      refine j_iconst (v := 1) (D_Model_event 15 rfl) rfl ?_
      exact j_zret (D_Model_event 16 rfl) rfl (wr_lit rfl) (nz_01 (by decide)) rfl rfl (leafZ h (wr_n (wr_lit rfl)) (by decide))
    · replace h := ite_t h c2
      refine j_iconst (v := 0) (D_Model_event 8 rfl) rfl ?_
      exact j_zret (D_Model_event 9 rfl) rfl (wr_lit rfl) (nz_01 (by decide)) rfl rfl (leafZ h (wr_n (wr_lit rfl)) (by decide))
abbrev M_Remembered_hasEvent : MI := (⟨"InquestHall$Remembered", "hasEvent", "(I)Z"⟩, prog_10_method_2_code, 2, (some .boolean))
theorem cw_Remembered_hasEvent : Cond.code M_Remembered_hasEvent.1 M_Remembered_hasEvent.2.1 M_Remembered_hasEvent.2.2.1 M_Remembered_hasEvent.2.2.2 ∈ TS := mTS (List.mem_of_getElem? (i := 1184) (by decide +kernel)) (by decide +kernel)
theorem fa_Remembered_11 : FA "InquestHall$Remembered" 11 5 0 true (.array .int) := ⟨_, _, _, _, ok_Remembered, by decide, mTS (List.mem_of_getElem? (i := 372) (by decide +kernel)) (by decide +kernel), rfl, rfl⟩
def tb_Remembered_hasEvent : List (Nat × Instr × Nat) := [(0, .iload_n 1, 1), (1, .ifCond .lt 23, 3), (4, .iload_n 1, 1), (5, .bipush 16, 2), (7, .if_icmp .ge 17, 3), (10, .aload_n 0, 1), (11, .getfield 11, 3), (14, .iload_n 1, 1), (15, .iaload, 1), (16, .iconst (-1), 1), (17, .if_icmp .eq 7, 3), (20, .iconst 1, 1), (21, .goto 4, 3), (24, .iconst 0, 1), (25, .ireturn, 1)]
theorem D_Remembered_hasEvent (i : Nat) {pc len : Nat} {ins : Instr} (hi : tb_Remembered_hasEvent[i]? = some (pc, ins, len)) : decode M_Remembered_hasEvent.2.1 pc = .ok (ins, len) := dec_of (by decide +kernel) i hi
def f_Remembered_hasEvent (G : GS) (a1 : Int) : Option (Int) :=
  if a1 < 0 then
    some 0
  else
    if 16 ≤ a1 then
      some 0
    else
      gd (0 ≤ a1 ∧ a1 < 16) <|
      if gi G 24 a1.toNat = (-1) then
        some 0
      else
        some 1
theorem c_Remembered_hasEvent {X : XT} {G : GS} {a1 : Int} {r : Int} (ha1 : wr a1 = a1) (h : f_Remembered_hasEvent G a1 = some r) : Call X true 6 0 0 M_Remembered_hasEvent [rf X 23, vi a1] NC G (Rz r G) := by
  refine Call_of_J cw_Remembered_hasEvent (by decide +kernel) (Nat.le_of_ble_eq_true rfl) ?_
  unfold f_Remembered_hasEvent at h
  show J X true 6 0 0 M_Remembered_hasEvent (Rz r G) NC 0 0 0 [(0, rf X 23), (1, vi a1)] [] G
  refine j_iloadn (k := 1) (D_Remembered_hasEvent 0 rfl) rfl rfl ?_
  refine j_if_lt (tgt := 24) (D_Remembered_hasEvent 1 rfl) rfl (ha1) (fun c1 => ?_) (fun c1 => ?_)
  · replace h := ite_t h c1
    refine j_iconst (v := 0) (D_Remembered_hasEvent 13 rfl) rfl ?_
    exact j_zret (D_Remembered_hasEvent 14 rfl) rfl (wr_lit rfl) (nz_01 (by decide)) rfl rfl (leafZo h (wr_n (wr_lit rfl)) (by decide))
  · replace h := ite_f h c1
    refine j_iloadn (k := 1) (D_Remembered_hasEvent 2 rfl) rfl rfl ?_
    refine j_bipush (v := 16) (D_Remembered_hasEvent 3 rfl) rfl ?_
    refine j_ic_ge (tgt := 24) (D_Remembered_hasEvent 4 rfl) rfl (ha1) (wr_lit rfl) (fun c2 => ?_) (fun c2 => ?_)
    · replace h := ite_t h c2
      refine j_iconst (v := 0) (D_Remembered_hasEvent 13 rfl) rfl ?_
      exact j_zret (D_Remembered_hasEvent 14 rfl) rfl (wr_lit rfl) (nz_01 (by decide)) rfl rfl (leafZo h (wr_n (wr_lit rfl)) (by decide))
    · replace h := ite_f h c2
      refine j_aloadn (k := 0) (D_Remembered_hasEvent 5 rfl) rfl rfl ?_
      refine j_getR rfl fa_Remembered_11 kd_23 lc_23 (by decide) rfl fx_23_0 (by decide) (D_Remembered_hasEvent 6 rfl) ?_
      refine j_iloadn (k := 1) (D_Remembered_hasEvent 7 rfl) rfl rfl ?_
      have g1 := gd_c h
      replace h := gd_s h
      refine j_iald (NI := 16) (D_Remembered_hasEvent 8 rfl) kd_24 lc_24 (ha1) rfl g1.1 g1.2 ?_
      refine j_iconst (v := (-1)) (D_Remembered_hasEvent 9 rfl) rfl ?_
      refine j_ic_eq (tgt := 24) (D_Remembered_hasEvent 10 rfl) rfl (wr_gi _ _ _) (wr_lit rfl) (fun c3 => ?_) (fun c3 => ?_)
      · replace h := ite_t h c3
        refine j_iconst (v := 0) (D_Remembered_hasEvent 13 rfl) rfl ?_
        exact j_zret (D_Remembered_hasEvent 14 rfl) rfl (wr_lit rfl) (nz_01 (by decide)) rfl rfl (leafZo h (wr_n (wr_lit rfl)) (by decide))
      · replace h := ite_f h c3
        refine j_iconst (v := 1) (D_Remembered_hasEvent 11 rfl) rfl ?_
        refine j_goto (tgt := 25) (D_Remembered_hasEvent 12 rfl) rfl ?_
        exact j_zret (D_Remembered_hasEvent 14 rfl) rfl (wr_lit rfl) (nz_01 (by decide)) rfl rfl (leafZo h (wr_n (wr_lit rfl)) (by decide))
abbrev M_MemoryReader_takeEvent : MI := (⟨"InquestHall$MemoryReader", "takeEvent", "()I"⟩, prog_7_method_5_code, 2, (some .int))
theorem cw_MemoryReader_takeEvent : Cond.code M_MemoryReader_takeEvent.1 M_MemoryReader_takeEvent.2.1 M_MemoryReader_takeEvent.2.2.1 M_MemoryReader_takeEvent.2.2.2 ∈ TS := mTS (List.mem_of_getElem? (i := 1179) (by decide +kernel)) (by decide +kernel)
theorem fa_MemoryReader_9 : FA "InquestHall$MemoryReader" 9 6 0 true (.object "InquestHall$Text") := ⟨_, _, _, _, ok_MemoryReader, by decide, mTS (List.mem_of_getElem? (i := 413) (by decide +kernel)) (by decide +kernel), rfl, rfl⟩
theorem kd_29 : kd 29 = (6 + 5, 2) := rfl
theorem lc_29 : 29 < NC := by decide
theorem fx_29_0 {G : GS} (w : WF true NC G) : G.2.2 29 0 = 15 := w.2 rfl (29, 0, 15) (by decide)
theorem lk_MemoryReader_72 : Cond.methodLink "InquestHall$MemoryReader" 72 M_Text_value.1 ∈ TS := mTS (List.mem_of_getElem? (i := 1180) (by decide +kernel)) (by decide +kernel)
theorem lk_MemoryReader_31 : Cond.methodLink "InquestHall$MemoryReader" 31 M_Text_kind.1 ∈ TS := mTS (List.mem_of_getElem? (i := 1162) (by decide +kernel)) (by decide +kernel)
theorem fa_MemoryReader_15 : FA "InquestHall$MemoryReader" 15 6 1 true (.object "InquestHall$Remembered") := ⟨_, _, _, _, ok_MemoryReader, by decide, mTS (List.mem_of_getElem? (i := 414) (by decide +kernel)) (by decide +kernel), rfl, rfl⟩
theorem fx_29_1 {G : GS} (w : WF true NC G) : G.2.2 29 1 = 23 := w.2 rfl (29, 1, 23) (by decide)
theorem lk_MemoryReader_75 : Cond.methodLink "InquestHall$MemoryReader" 75 M_Remembered_hasEvent.1 ∈ TS := mTS (List.mem_of_getElem? (i := 1181) (by decide +kernel)) (by decide +kernel)
theorem mok_Remembered_hasEvent : MOK M_Remembered_hasEvent 1 := ⟨mTS (List.mem_of_getElem? (i := 1182) (by decide +kernel)) (by decide +kernel), mTS (List.mem_of_getElem? (i := 1183) (by decide +kernel)) (by decide +kernel), mTS (List.mem_of_getElem? (i := 131) (by decide +kernel)) (by decide +kernel), cw_Remembered_hasEvent, ⟨by decide, by decide, by decide +kernel⟩, by decide +kernel, by decide⟩
theorem lk_MemoryReader_39 : Cond.methodLink "InquestHall$MemoryReader" 39 M_Text_fail.1 ∈ TS := mTS (List.mem_of_getElem? (i := 1167) (by decide +kernel)) (by decide +kernel)
theorem lk_MemoryReader_46 : Cond.methodLink "InquestHall$MemoryReader" 46 M_Text_take.1 ∈ TS := mTS (List.mem_of_getElem? (i := 1175) (by decide +kernel)) (by decide +kernel)
theorem fa_MemoryReader_27 : FA "InquestHall$MemoryReader" 27 3 8 false .int := ⟨_, _, _, _, ok_Text, by decide, mTS (List.mem_of_getElem? (i := 302) (by decide +kernel)) (by decide +kernel), rfl, rfl⟩
def tb_MemoryReader_takeEvent : List (Nat × Instr × Nat) := [(0, .aload_n 0, 1), (1, .getfield 9, 3), (4, .invokevirtual 72, 3), (7, .istore_n 1, 1), (8, .aload_n 0, 1), (9, .getfield 9, 3), (12, .invokevirtual 31, 3), (15, .iconst 2, 1), (16, .if_icmp .ne 22, 3), (19, .aload_n 0, 1), (20, .getfield 15, 3), (23, .iload_n 1, 1), (24, .invokevirtual 75, 3), (27, .ifCond .ne 11, 3), (30, .aload_n 0, 1), (31, .getfield 9, 3), (34, .iconst 2, 1), (35, .invokevirtual 39, 3), (38, .aload_n 0, 1), (39, .getfield 9, 3), (42, .iconst 2, 1), (43, .invokevirtual 46, 3), (46, .aload_n 0, 1), (47, .getfield 9, 3), (50, .getfield 27, 3), (53, .ifCond .ne 7, 3), (56, .iload_n 1, 1), (57, .goto 4, 3), (60, .iconst 0, 1), (61, .ireturn, 1)]
theorem D_MemoryReader_takeEvent (i : Nat) {pc len : Nat} {ins : Instr} (hi : tb_MemoryReader_takeEvent[i]? = some (pc, ins, len)) : decode M_MemoryReader_takeEvent.2.1 pc = .ok (ins, len) := dec_of (by decide +kernel) i hi
def f_MemoryReader_takeEvent_L38 (G : GS) (x1 : Int) : Option (Int × GS) :=
  (f_Text_take G 2).bind fun q1 =>
  if gi q1 15 8 = 0 then
    some (x1, q1)
  else
    some (0, q1)
theorem s_MemoryReader_takeEvent_L38 {X : XT} {r : Int × GS} : ∀ {G : GS} {x1 : Int}, wr x1 = x1 → f_MemoryReader_takeEvent_L38 G x1 = some r → J X true 9 0 0 M_MemoryReader_takeEvent (Ri r.1 r.2) NC 0 0 38 [(0, rf X 29), (1, vi x1)] [] G := by
  intro G x1 hx1 h
  unfold f_MemoryReader_takeEvent_L38 at h
  refine j_aloadn (k := 0) (D_MemoryReader_takeEvent 18 rfl) rfl rfl ?_
  refine j_getR rfl fa_MemoryReader_9 kd_29 lc_29 (by decide) rfl fx_29_0 (by decide) (D_MemoryReader_takeEvent 19 rfl) ?_
  refine j_iconst (v := 2) (D_MemoryReader_takeEvent 20 rfl) rfl ?_
  obtain ⟨q1, e1, h⟩ := Option.bind_eq_some_iff.mp h
  refine j_cVv (c_Text_take (wr_lit rfl) e1) rfl lk_MemoryReader_46 mok_Text_take kd_15 lc_15 rfl (by decide) rfl rfl (Nat.le_of_ble_eq_true rfl) (D_MemoryReader_takeEvent 21 rfl) ?_
  refine j_aloadn (k := 0) (D_MemoryReader_takeEvent 22 rfl) rfl rfl ?_
  refine j_getR rfl fa_MemoryReader_9 kd_29 lc_29 (by decide) rfl fx_29_0 (by decide) (D_MemoryReader_takeEvent 23 rfl) ?_
  refine j_getI rfl fa_MemoryReader_27 kd_15 lc_15 (by decide) rfl (D_MemoryReader_takeEvent 24 rfl) ?_
  refine j_if_ne (tgt := 60) (D_MemoryReader_takeEvent 25 rfl) rfl (wr_gi _ _ _) (fun c1 => ?_) (fun c1 => ?_)
  · replace h := ite_f h c1
    refine j_iconst (v := 0) (D_MemoryReader_takeEvent 28 rfl) rfl ?_
    exact j_iret (D_MemoryReader_takeEvent 29 rfl) rfl (wr_lit rfl) rfl rfl (leafI h (wr_n (wr_lit rfl)))
  · replace h := ite_t h c1
    refine j_iloadn (k := 1) (D_MemoryReader_takeEvent 26 rfl) rfl rfl ?_
    refine j_goto (tgt := 61) (D_MemoryReader_takeEvent 27 rfl) rfl ?_
    exact j_iret (D_MemoryReader_takeEvent 29 rfl) rfl (hx1) rfl rfl (leafI h (wr_n (hx1)))
def f_MemoryReader_takeEvent (G : GS) : Option (Int × GS) :=
  (f_Text_value G).bind fun q1 =>
  (f_Text_kind G).bind fun q2 =>
  if q2 = 2 then
    (f_Remembered_hasEvent G q1).bind fun q3 =>
    if q3 = 0 then
      (f_Text_fail G 2).bind fun q4 =>
      f_MemoryReader_takeEvent_L38 q4 q1
    else
      f_MemoryReader_takeEvent_L38 G q1
  else
    f_MemoryReader_takeEvent_L38 G q1
theorem c_MemoryReader_takeEvent {X : XT} {G : GS} {r : Int × GS} (h : f_MemoryReader_takeEvent G = some r) : Call X true 9 0 0 M_MemoryReader_takeEvent [rf X 29] NC G (Ri r.1 r.2) := by
  refine Call_of_J cw_MemoryReader_takeEvent (by decide +kernel) (Nat.le_of_ble_eq_true rfl) ?_
  unfold f_MemoryReader_takeEvent at h
  show J X true 9 0 0 M_MemoryReader_takeEvent (Ri r.1 r.2) NC 0 0 0 [(0, rf X 29)] [] G
  refine j_aloadn (k := 0) (D_MemoryReader_takeEvent 0 rfl) rfl rfl ?_
  refine j_getR rfl fa_MemoryReader_9 kd_29 lc_29 (by decide) rfl fx_29_0 (by decide) (D_MemoryReader_takeEvent 1 rfl) ?_
  obtain ⟨q1, e1, h⟩ := Option.bind_eq_some_iff.mp h
  refine j_cVi (c_Text_value e1) rfl lk_MemoryReader_72 mok_Text_value kd_15 lc_15 rfl (by decide) rfl rfl (Nat.le_of_ble_eq_true rfl) (D_MemoryReader_takeEvent 2 rfl) (fun w1 => ?_)
  refine j_istoren (L' := [(1, vi q1), (0, rf X 29)]) (D_MemoryReader_takeEvent 3 rfl) rfl (w1) (by decide) rfl ?_
  refine j_aloadn (k := 1) (D_MemoryReader_takeEvent 4 rfl) rfl rfl ?_
  refine j_getR rfl fa_MemoryReader_9 kd_29 lc_29 (by decide) rfl fx_29_0 (by decide) (D_MemoryReader_takeEvent 5 rfl) ?_
  obtain ⟨q2, e2, h⟩ := Option.bind_eq_some_iff.mp h
  refine j_cVi (c_Text_kind e2) rfl lk_MemoryReader_31 mok_Text_kind kd_15 lc_15 rfl (by decide) rfl rfl (Nat.le_of_ble_eq_true rfl) (D_MemoryReader_takeEvent 6 rfl) (fun w2 => ?_)
  refine j_iconst (v := 2) (D_MemoryReader_takeEvent 7 rfl) rfl ?_
  refine j_ic_ne (tgt := 38) (D_MemoryReader_takeEvent 8 rfl) rfl (w2) (wr_lit rfl) (fun c1 => ?_) (fun c1 => ?_)
  · replace h := ite_f h c1
    refine j_loc [1, 0] rfl ?_
    exact s_MemoryReader_takeEvent_L38 (w1) h
  · replace h := ite_t h c1
    refine j_aloadn (k := 1) (D_MemoryReader_takeEvent 9 rfl) rfl rfl ?_
    refine j_getR rfl fa_MemoryReader_15 kd_29 lc_29 (by decide) rfl fx_29_1 (by decide) (D_MemoryReader_takeEvent 10 rfl) ?_
    refine j_iloadn (k := 0) (D_MemoryReader_takeEvent 11 rfl) rfl rfl ?_
    obtain ⟨q3, e3, h⟩ := Option.bind_eq_some_iff.mp h
    refine j_cVz (c_Remembered_hasEvent (w1) e3) rfl lk_MemoryReader_75 mok_Remembered_hasEvent kd_23 lc_23 rfl (by decide) rfl rfl (Nat.le_of_ble_eq_true rfl) (D_MemoryReader_takeEvent 12 rfl) (fun w3 bw3 => ?_)
    refine j_if_ne (tgt := 38) (D_MemoryReader_takeEvent 13 rfl) rfl (w3) (fun c2 => ?_) (fun c2 => ?_)
    · replace h := ite_f h c2
      refine j_loc [1, 0] rfl ?_
      exact s_MemoryReader_takeEvent_L38 (w1) h
    · replace h := ite_t h c2
      refine j_aloadn (k := 1) (D_MemoryReader_takeEvent 14 rfl) rfl rfl ?_
      refine j_getR rfl fa_MemoryReader_9 kd_29 lc_29 (by decide) rfl fx_29_0 (by decide) (D_MemoryReader_takeEvent 15 rfl) ?_
      refine j_iconst (v := 2) (D_MemoryReader_takeEvent 16 rfl) rfl ?_
      obtain ⟨q4, e4, h⟩ := Option.bind_eq_some_iff.mp h
      refine j_cVv (c_Text_fail (wr_lit rfl) e4) rfl lk_MemoryReader_39 mok_Text_fail kd_15 lc_15 rfl (by decide) rfl rfl (Nat.le_of_ble_eq_true rfl) (D_MemoryReader_takeEvent 17 rfl) ?_
      refine j_loc [1, 0] rfl ?_
      exact s_MemoryReader_takeEvent_L38 (w1) h
abbrev M_Remembered_put : MI := (⟨"InquestHall$Remembered", "put", "(IIIII)V"⟩, prog_10_method_3_code, 7, none)
theorem cw_Remembered_put : Cond.code M_Remembered_put.1 M_Remembered_put.2.1 M_Remembered_put.2.2.1 M_Remembered_put.2.2.2 ∈ TS := mTS (List.mem_of_getElem? (i := 1188) (by decide +kernel)) (by decide +kernel)
theorem fa_Remembered_20 : FA "InquestHall$Remembered" 20 5 2 true (.array .int) := ⟨_, _, _, _, ok_Remembered, by decide, mTS (List.mem_of_getElem? (i := 377) (by decide +kernel)) (by decide +kernel), rfl, rfl⟩
theorem fx_23_2 {G : GS} (w : WF true NC G) : G.2.2 23 2 = 26 := w.2 rfl (23, 2, 26) (by decide)
theorem kd_26 : kd 26 = (0, 768) := rfl
theorem lc_26 : 26 < NC := by decide
theorem fa_Remembered_23 : FA "InquestHall$Remembered" 23 5 3 true (.array .int) := ⟨_, _, _, _, ok_Remembered, by decide, mTS (List.mem_of_getElem? (i := 378) (by decide +kernel)) (by decide +kernel), rfl, rfl⟩
theorem fx_23_3 {G : GS} (w : WF true NC G) : G.2.2 23 3 = 27 := w.2 rfl (23, 3, 27) (by decide)
theorem kd_27 : kd 27 = (0, 768) := rfl
theorem lc_27 : 27 < NC := by decide
theorem fa_Remembered_26 : FA "InquestHall$Remembered" 26 5 4 true (.array .int) := ⟨_, _, _, _, ok_Remembered, by decide, mTS (List.mem_of_getElem? (i := 379) (by decide +kernel)) (by decide +kernel), rfl, rfl⟩
theorem fx_23_4 {G : GS} (w : WF true NC G) : G.2.2 23 4 = 28 := w.2 rfl (23, 4, 28) (by decide)
theorem kd_28 : kd 28 = (0, 768) := rfl
theorem lc_28 : 28 < NC := by decide
def tb_Remembered_put : List (Nat × Instr × Nat) := [(0, .iload_n 1, 1), (1, .bipush 24, 2), (3, .imul, 1), (4, .iload_n 2, 1), (5, .iadd, 1), (6, .istore 6, 2), (8, .aload_n 0, 1), (9, .getfield 20, 3), (12, .iload 6, 2), (14, .iload_n 3, 1), (15, .iastore, 1), (16, .aload_n 0, 1), (17, .getfield 23, 3), (20, .iload 6, 2), (22, .iload 4, 2), (24, .iastore, 1), (25, .aload_n 0, 1), (26, .getfield 26, 3), (29, .iload 6, 2), (31, .iload 5, 2), (33, .iastore, 1), (34, .return_, 1)]
theorem D_Remembered_put (i : Nat) {pc len : Nat} {ins : Instr} (hi : tb_Remembered_put[i]? = some (pc, ins, len)) : decode M_Remembered_put.2.1 pc = .ok (ins, len) := dec_of (by decide +kernel) i hi
def f_Remembered_put (G : GS) (a1 : Int) (a2 : Int) (a3 : Int) (a4 : Int) (a5 : Int) : Option (GS) :=
  gd (0 ≤ wr ((a1 * 24) + a2) ∧ wr ((a1 * 24) + a2) < 768) <|
  wG (si G 26 (wr ((a1 * 24) + a2)).toNat a3) fun G1 =>
  gd (0 ≤ wr ((a1 * 24) + a2) ∧ wr ((a1 * 24) + a2) < 768) <|
  wG (si G1 27 (wr ((a1 * 24) + a2)).toNat a4) fun G2 =>
  gd (0 ≤ wr ((a1 * 24) + a2) ∧ wr ((a1 * 24) + a2) < 768) <|
  wG (si G2 28 (wr ((a1 * 24) + a2)).toNat a5) fun G3 =>
  some G3
theorem c_Remembered_put {X : XT} {G : GS} {a1 : Int} {a2 : Int} {a3 : Int} {a4 : Int} {a5 : Int} {r : GS} (ha1 : wr a1 = a1) (ha2 : wr a2 = a2) (ha3 : wr a3 = a3) (ha4 : wr a4 = a4) (ha5 : wr a5 = a5) (h : f_Remembered_put G a1 a2 a3 a4 a5 = some r) : Call X true 6 0 0 M_Remembered_put [rf X 23, vi a1, vi a2, vi a3, vi a4, vi a5] NC G (Rv r) := by
  refine Call_of_J cw_Remembered_put (by decide +kernel) (Nat.le_of_ble_eq_true rfl) ?_
  unfold f_Remembered_put at h
  show J X true 6 0 0 M_Remembered_put (Rv r) NC 0 0 0 [(0, rf X 23), (1, vi a1), (2, vi a2), (3, vi a3), (4, vi a4), (5, vi a5)] [] G
  refine j_iloadn (k := 1) (D_Remembered_put 0 rfl) rfl rfl ?_
  refine j_bipush (v := 24) (D_Remembered_put 1 rfl) rfl ?_
  refine j_imul (D_Remembered_put 2 rfl) ?_
  refine j_iloadn (k := 2) (D_Remembered_put 3 rfl) rfl rfl ?_
  refine j_iadd (D_Remembered_put 4 rfl) ?_
  refine j_istore (L' := [(6, vi (wr ((a1 * 24) + a2))), (0, rf X 23), (1, vi a1), (2, vi a2), (3, vi a3), (4, vi a4), (5, vi a5)]) (D_Remembered_put 5 rfl) (rfl) (by decide) rfl ?_
  refine j_aloadn (k := 1) (D_Remembered_put 6 rfl) rfl rfl ?_
  refine j_getR rfl fa_Remembered_20 kd_23 lc_23 (by decide) rfl fx_23_2 (by decide) (D_Remembered_put 7 rfl) ?_
  refine j_iload (k := 0) (D_Remembered_put 8 rfl) rfl ?_
  refine j_iloadn (k := 4) (D_Remembered_put 9 rfl) rfl rfl ?_
  have g1 := gd_c h
  replace h := gd_s h
  refine j_iast (NI := 768) (D_Remembered_put 10 rfl) kd_26 lc_26 (wr_wr _) rfl g1.1 g1.2 ?_
  refine j_gen (fun G1 e1 => ?_)
  replace h := wG_at h e1
  refine j_aloadn (k := 1) (D_Remembered_put 11 rfl) rfl rfl ?_
  refine j_getR rfl fa_Remembered_23 kd_23 lc_23 (by decide) rfl fx_23_3 (by decide) (D_Remembered_put 12 rfl) ?_
  refine j_iload (k := 0) (D_Remembered_put 13 rfl) rfl ?_
  refine j_iload (k := 5) (D_Remembered_put 14 rfl) rfl ?_
  have g2 := gd_c h
  replace h := gd_s h
  refine j_iast (NI := 768) (D_Remembered_put 15 rfl) kd_27 lc_27 (wr_wr _) rfl g2.1 g2.2 ?_
  refine j_gen (fun G2 e2 => ?_)
  replace h := wG_at h e2
  refine j_aloadn (k := 1) (D_Remembered_put 16 rfl) rfl rfl ?_
  refine j_getR rfl fa_Remembered_26 kd_23 lc_23 (by decide) rfl fx_23_4 (by decide) (D_Remembered_put 17 rfl) ?_
  refine j_iload (k := 0) (D_Remembered_put 18 rfl) rfl ?_
  refine j_iload (k := 6) (D_Remembered_put 19 rfl) rfl ?_
  have g3 := gd_c h
  replace h := gd_s h
  refine j_iast (NI := 768) (D_Remembered_put 20 rfl) kd_28 lc_28 (wr_wr _) rfl g3.1 g3.2 ?_
  refine j_gen (fun G3 e3 => ?_)
  replace h := wG_at h e3
  exact j_vret (D_Remembered_put 21 rfl) rfl rfl rfl (leafV h)
abbrev M_MemoryReader_counted : MI := (⟨"InquestHall$MemoryReader", "counted", "(II)V"⟩, prog_7_method_4_code, 6, none)
theorem cw_MemoryReader_counted : Cond.code M_MemoryReader_counted.1 M_MemoryReader_counted.2.1 M_MemoryReader_counted.2.2.1 M_MemoryReader_counted.2.2.2 ∈ TS := mTS (List.mem_of_getElem? (i := 1171) (by decide +kernel)) (by decide +kernel)
theorem ct_MemoryReader_59 : Cond.constant "InquestHall$MemoryReader" 59 (99999 : Int32) ∈ TS := mTS (List.mem_of_getElem? (i := 1172) (by decide +kernel)) (by decide +kernel)
theorem lk_MemoryReader_60 : Cond.methodLink "InquestHall$MemoryReader" 60 M_Text_takeNumber.1 ∈ TS := mTS (List.mem_of_getElem? (i := 1173) (by decide +kernel)) (by decide +kernel)
theorem lk_MemoryReader_64 : Cond.methodLink "InquestHall$MemoryReader" 64 M_Text_takeIf.1 ∈ TS := mTS (List.mem_of_getElem? (i := 1174) (by decide +kernel)) (by decide +kernel)
theorem lk_MemoryReader_68 : Cond.methodLink "InquestHall$MemoryReader" 68 M_Text_takeOneOf.1 ∈ TS := mTS (List.mem_of_getElem? (i := 1189) (by decide +kernel)) (by decide +kernel)
theorem lk_MemoryReader_52 : Cond.methodLink "InquestHall$MemoryReader" 52 M_MemoryReader_takeEvent.1 ∈ TS := mTS (List.mem_of_getElem? (i := 1176) (by decide +kernel)) (by decide +kernel)
theorem mok_MemoryReader_takeEvent : MOK M_MemoryReader_takeEvent 0 := ⟨mTS (List.mem_of_getElem? (i := 1178) (by decide +kernel)) (by decide +kernel), mTS (List.mem_of_getElem? (i := 48) (by decide +kernel)) (by decide +kernel), mTS (List.mem_of_getElem? (i := 133) (by decide +kernel)) (by decide +kernel), cw_MemoryReader_takeEvent, ⟨by decide, by decide, by decide +kernel⟩, by decide +kernel, by decide⟩
theorem lk_MemoryReader_55 : Cond.methodLink "InquestHall$MemoryReader" 55 M_Remembered_put.1 ∈ TS := mTS (List.mem_of_getElem? (i := 1185) (by decide +kernel)) (by decide +kernel)
theorem mok_Remembered_put : MOK M_Remembered_put 5 := ⟨mTS (List.mem_of_getElem? (i := 1186) (by decide +kernel)) (by decide +kernel), mTS (List.mem_of_getElem? (i := 1187) (by decide +kernel)) (by decide +kernel), mTS (List.mem_of_getElem? (i := 131) (by decide +kernel)) (by decide +kernel), cw_Remembered_put, ⟨by decide, by decide, by decide +kernel⟩, by decide +kernel, by decide⟩
def tb_MemoryReader_counted : List (Nat × Instr × Nat) := [(0, .aload_n 0, 1), (1, .getfield 9, 3), (4, .ldc 59, 2), (6, .invokevirtual 60, 3), (9, .istore_n 3, 1), (10, .aload_n 0, 1), (11, .getfield 9, 3), (14, .sipush 133, 3), (17, .invokevirtual 64, 3), (20, .ifCond .eq 72, 3), (23, .aload_n 0, 1), (24, .getfield 9, 3), (27, .sipush 134, 3), (30, .invokevirtual 46, 3), (33, .aload_n 0, 1), (34, .invokevirtual 52, 3), (37, .istore 4, 2), (39, .aload_n 0, 1), (40, .getfield 9, 3), (43, .sipush 135, 3), (46, .invokevirtual 46, 3), (49, .aload_n 0, 1), (50, .getfield 9, 3), (53, .ldc 59, 2), (55, .invokevirtual 60, 3), (58, .istore 5, 2), (60, .aload_n 0, 1), (61, .getfield 15, 3), (64, .iload_n 1, 1), (65, .iload_n 2, 1), (66, .iload 4, 2), (68, .iload_n 3, 1), (69, .ineg, 1), (70, .sipush 360, 3), (73, .imul, 1), (74, .iload 5, 2), (76, .isub, 1), (77, .iload_n 3, 1), (78, .ineg, 1), (79, .sipush 360, 3), (82, .imul, 1), (83, .iload 5, 2), (85, .iadd, 1), (86, .invokevirtual 55, 3), (89, .goto 52, 3), (92, .aload_n 0, 1), (93, .getfield 9, 3), (96, .sipush 132, 3), (99, .invokevirtual 46, 3), (102, .aload_n 0, 1), (103, .getfield 9, 3), (106, .sipush 130, 3), (109, .iconst 2, 1), (110, .invokevirtual 68, 3), (113, .ifCond .ne 8, 3), (116, .iload_n 3, 1), (117, .ineg, 1), (118, .goto 4, 3), (121, .iload_n 3, 1), (122, .istore 4, 2), (124, .aload_n 0, 1), (125, .getfield 15, 3), (128, .iload_n 1, 1), (129, .iload_n 2, 1), (130, .aload_n 0, 1), (131, .invokevirtual 52, 3), (134, .iload 4, 2), (136, .iload 4, 2), (138, .invokevirtual 55, 3), (141, .return_, 1)]
theorem D_MemoryReader_counted (i : Nat) {pc len : Nat} {ins : Instr} (hi : tb_MemoryReader_counted[i]? = some (pc, ins, len)) : decode M_MemoryReader_counted.2.1 pc = .ok (ins, len) := dec_of (by decide +kernel) i hi
def f_MemoryReader_counted_L122 (G : GS) (x1 : Int) (x2 : Int) (s0 : Int) : Option (GS) :=
  (f_MemoryReader_takeEvent G).bind fun q1 =>
  (f_Remembered_put q1.2 x1 x2 q1.1 s0 s0).bind fun q2 =>
  some q2
theorem s_MemoryReader_counted_L122 {X : XT} {r : GS} : ∀ {G : GS} {x1 : Int} {x2 : Int} {s0 : Int}, wr x1 = x1 → wr x2 = x2 → wr s0 = s0 → f_MemoryReader_counted_L122 G x1 x2 s0 = some r → J X true 10 0 0 M_MemoryReader_counted (Rv r) NC 0 0 122 [(0, rf X 29), (1, vi x1), (2, vi x2)] [vi s0] G := by
  intro G x1 x2 s0 hx1 hx2 hs0 h
  unfold f_MemoryReader_counted_L122 at h
  refine j_istore (L' := [(4, vi s0), (0, rf X 29), (1, vi x1), (2, vi x2)]) (D_MemoryReader_counted 59 rfl) (hs0) (by decide) rfl ?_
  refine j_aloadn (k := 1) (D_MemoryReader_counted 60 rfl) rfl rfl ?_
  refine j_getR rfl fa_MemoryReader_15 kd_29 lc_29 (by decide) rfl fx_29_1 (by decide) (D_MemoryReader_counted 61 rfl) ?_
  refine j_iloadn (k := 2) (D_MemoryReader_counted 62 rfl) rfl rfl ?_
  refine j_iloadn (k := 3) (D_MemoryReader_counted 63 rfl) rfl rfl ?_
  refine j_aloadn (k := 1) (D_MemoryReader_counted 64 rfl) rfl rfl ?_
  obtain ⟨q1, e1, h⟩ := Option.bind_eq_some_iff.mp h
  refine j_cVi (c_MemoryReader_takeEvent e1) rfl lk_MemoryReader_52 mok_MemoryReader_takeEvent kd_29 lc_29 rfl (by decide) rfl rfl (Nat.le_of_ble_eq_true rfl) (D_MemoryReader_counted 65 rfl) (fun w1 => ?_)
  refine j_iload (k := 0) (D_MemoryReader_counted 66 rfl) rfl ?_
  refine j_iload (k := 0) (D_MemoryReader_counted 67 rfl) rfl ?_
  obtain ⟨q2, e2, h⟩ := Option.bind_eq_some_iff.mp h
  refine j_cVv (c_Remembered_put (hx1) (hx2) (w1) (hs0) (hs0) e2) rfl lk_MemoryReader_55 mok_Remembered_put kd_23 lc_23 rfl (by decide) rfl rfl (Nat.le_of_ble_eq_true rfl) (D_MemoryReader_counted 68 rfl) ?_
  exact j_vret (D_MemoryReader_counted 69 rfl) rfl rfl rfl (leafV h)
def f_MemoryReader_counted (G : GS) (a1 : Int) (a2 : Int) : Option (GS) :=
  (f_Text_takeNumber G 99999).bind fun q1 =>
  (f_Text_takeIf q1.2 133).bind fun q2 =>
  if q2.1 = 0 then
    (f_Text_take q2.2 132).bind fun q3 =>
    (f_Text_takeOneOf q3 130 2).bind fun q4 =>
    if q4.1 = 0 then
      f_MemoryReader_counted_L122 q4.2 a1 a2 (wr (-q1.1))
    else
      f_MemoryReader_counted_L122 q4.2 a1 a2 q1.1
  else
    (f_Text_take q2.2 134).bind fun q5 =>
    (f_MemoryReader_takeEvent q5).bind fun q6 =>
    (f_Text_take q6.2 135).bind fun q7 =>
    (f_Text_takeNumber q7 99999).bind fun q8 =>
    (f_Remembered_put q8.2 a1 a2 q6.1 (wr (((-q1.1) * 360) - q8.1)) (wr (((-q1.1) * 360) + q8.1))).bind fun q9 =>
    some q9
theorem c_MemoryReader_counted {X : XT} {G : GS} {a1 : Int} {a2 : Int} {r : GS} (ha1 : wr a1 = a1) (ha2 : wr a2 = a2) (h : f_MemoryReader_counted G a1 a2 = some r) : Call X true 10 0 0 M_MemoryReader_counted [rf X 29, vi a1, vi a2] NC G (Rv r) := by
  refine Call_of_J cw_MemoryReader_counted (by decide +kernel) (Nat.le_of_ble_eq_true rfl) ?_
  unfold f_MemoryReader_counted at h
  show J X true 10 0 0 M_MemoryReader_counted (Rv r) NC 0 0 0 [(0, rf X 29), (1, vi a1), (2, vi a2)] [] G
  refine j_aloadn (k := 0) (D_MemoryReader_counted 0 rfl) rfl rfl ?_
  refine j_getR rfl fa_MemoryReader_9 kd_29 lc_29 (by decide) rfl fx_29_0 (by decide) (D_MemoryReader_counted 1 rfl) ?_
  refine j_ldc (v := 99999) rfl ct_MemoryReader_59 (by decide) (D_MemoryReader_counted 2 rfl) ?_
  obtain ⟨q1, e1, h⟩ := Option.bind_eq_some_iff.mp h
  refine j_cVi (c_Text_takeNumber (wr_lit rfl) e1) rfl lk_MemoryReader_60 mok_Text_takeNumber kd_15 lc_15 rfl (by decide) rfl rfl (Nat.le_of_ble_eq_true rfl) (D_MemoryReader_counted 3 rfl) (fun w1 => ?_)
  refine j_istoren (L' := [(3, vi q1.1), (0, rf X 29), (1, vi a1), (2, vi a2)]) (D_MemoryReader_counted 4 rfl) rfl (w1) (by decide) rfl ?_
  refine j_aloadn (k := 1) (D_MemoryReader_counted 5 rfl) rfl rfl ?_
  refine j_getR rfl fa_MemoryReader_9 kd_29 lc_29 (by decide) rfl fx_29_0 (by decide) (D_MemoryReader_counted 6 rfl) ?_
  refine j_sipush (v := 133) (D_MemoryReader_counted 7 rfl) rfl ?_
  obtain ⟨q2, e2, h⟩ := Option.bind_eq_some_iff.mp h
  refine j_cVz (c_Text_takeIf (wr_lit rfl) e2) rfl lk_MemoryReader_64 mok_Text_takeIf kd_15 lc_15 rfl (by decide) rfl rfl (Nat.le_of_ble_eq_true rfl) (D_MemoryReader_counted 8 rfl) (fun w2 bw2 => ?_)
  refine j_if_eq (tgt := 92) (D_MemoryReader_counted 9 rfl) rfl (w2) (fun c1 => ?_) (fun c1 => ?_)
  · replace h := ite_t h c1
    refine j_aloadn (k := 1) (D_MemoryReader_counted 45 rfl) rfl rfl ?_
    refine j_getR rfl fa_MemoryReader_9 kd_29 lc_29 (by decide) rfl fx_29_0 (by decide) (D_MemoryReader_counted 46 rfl) ?_
    refine j_sipush (v := 132) (D_MemoryReader_counted 47 rfl) rfl ?_
    obtain ⟨q3, e3, h⟩ := Option.bind_eq_some_iff.mp h
    refine j_cVv (c_Text_take (wr_lit rfl) e3) rfl lk_MemoryReader_46 mok_Text_take kd_15 lc_15 rfl (by decide) rfl rfl (Nat.le_of_ble_eq_true rfl) (D_MemoryReader_counted 48 rfl) ?_
    refine j_aloadn (k := 1) (D_MemoryReader_counted 49 rfl) rfl rfl ?_
    refine j_getR rfl fa_MemoryReader_9 kd_29 lc_29 (by decide) rfl fx_29_0 (by decide) (D_MemoryReader_counted 50 rfl) ?_
    refine j_sipush (v := 130) (D_MemoryReader_counted 51 rfl) rfl ?_
    refine j_iconst (v := 2) (D_MemoryReader_counted 52 rfl) rfl ?_
    obtain ⟨q4, e4, h⟩ := Option.bind_eq_some_iff.mp h
    refine j_cVi (c_Text_takeOneOf (wr_lit rfl) (wr_lit rfl) e4) rfl lk_MemoryReader_68 mok_Text_takeOneOf kd_15 lc_15 rfl (by decide) rfl rfl (Nat.le_of_ble_eq_true rfl) (D_MemoryReader_counted 53 rfl) (fun w3 => ?_)
    refine j_if_ne (tgt := 121) (D_MemoryReader_counted 54 rfl) rfl (w3) (fun c2 => ?_) (fun c2 => ?_)
    · replace h := ite_f h c2
      refine j_iloadn (k := 0) (D_MemoryReader_counted 58 rfl) rfl rfl ?_
      refine j_loc [1, 2, 3] rfl ?_
      exact s_MemoryReader_counted_L122 (ha1) (ha2) (w1) h
    · replace h := ite_t h c2
      refine j_iloadn (k := 0) (D_MemoryReader_counted 55 rfl) rfl rfl ?_
      refine j_ineg (D_MemoryReader_counted 56 rfl) ?_
      refine j_goto (tgt := 122) (D_MemoryReader_counted 57 rfl) rfl ?_
      refine j_top0 (rfl) ?_
      refine j_loc [1, 2, 3] rfl ?_
      exact s_MemoryReader_counted_L122 (ha1) (ha2) (wr_wr _) h
  · replace h := ite_f h c1
    refine j_aloadn (k := 1) (D_MemoryReader_counted 10 rfl) rfl rfl ?_
    refine j_getR rfl fa_MemoryReader_9 kd_29 lc_29 (by decide) rfl fx_29_0 (by decide) (D_MemoryReader_counted 11 rfl) ?_
    refine j_sipush (v := 134) (D_MemoryReader_counted 12 rfl) rfl ?_
    obtain ⟨q5, e5, h⟩ := Option.bind_eq_some_iff.mp h
    refine j_cVv (c_Text_take (wr_lit rfl) e5) rfl lk_MemoryReader_46 mok_Text_take kd_15 lc_15 rfl (by decide) rfl rfl (Nat.le_of_ble_eq_true rfl) (D_MemoryReader_counted 13 rfl) ?_
    refine j_aloadn (k := 1) (D_MemoryReader_counted 14 rfl) rfl rfl ?_
    obtain ⟨q6, e6, h⟩ := Option.bind_eq_some_iff.mp h
    refine j_cVi (c_MemoryReader_takeEvent e6) rfl lk_MemoryReader_52 mok_MemoryReader_takeEvent kd_29 lc_29 rfl (by decide) rfl rfl (Nat.le_of_ble_eq_true rfl) (D_MemoryReader_counted 15 rfl) (fun w4 => ?_)
    refine j_istore (L' := [(4, vi q6.1), (3, vi q1.1), (0, rf X 29), (1, vi a1), (2, vi a2)]) (D_MemoryReader_counted 16 rfl) (w4) (by decide) rfl ?_
    refine j_aloadn (k := 2) (D_MemoryReader_counted 17 rfl) rfl rfl ?_
    refine j_getR rfl fa_MemoryReader_9 kd_29 lc_29 (by decide) rfl fx_29_0 (by decide) (D_MemoryReader_counted 18 rfl) ?_
    refine j_sipush (v := 135) (D_MemoryReader_counted 19 rfl) rfl ?_
    obtain ⟨q7, e7, h⟩ := Option.bind_eq_some_iff.mp h
    refine j_cVv (c_Text_take (wr_lit rfl) e7) rfl lk_MemoryReader_46 mok_Text_take kd_15 lc_15 rfl (by decide) rfl rfl (Nat.le_of_ble_eq_true rfl) (D_MemoryReader_counted 20 rfl) ?_
    refine j_aloadn (k := 2) (D_MemoryReader_counted 21 rfl) rfl rfl ?_
    refine j_getR rfl fa_MemoryReader_9 kd_29 lc_29 (by decide) rfl fx_29_0 (by decide) (D_MemoryReader_counted 22 rfl) ?_
    refine j_ldc (v := 99999) rfl ct_MemoryReader_59 (by decide) (D_MemoryReader_counted 23 rfl) ?_
    obtain ⟨q8, e8, h⟩ := Option.bind_eq_some_iff.mp h
    refine j_cVi (c_Text_takeNumber (wr_lit rfl) e8) rfl lk_MemoryReader_60 mok_Text_takeNumber kd_15 lc_15 rfl (by decide) rfl rfl (Nat.le_of_ble_eq_true rfl) (D_MemoryReader_counted 24 rfl) (fun w5 => ?_)
    refine j_istore (L' := [(5, vi q8.1), (4, vi q6.1), (3, vi q1.1), (0, rf X 29), (1, vi a1), (2, vi a2)]) (D_MemoryReader_counted 25 rfl) (w5) (by decide) rfl ?_
    refine j_aloadn (k := 3) (D_MemoryReader_counted 26 rfl) rfl rfl ?_
    refine j_getR rfl fa_MemoryReader_15 kd_29 lc_29 (by decide) rfl fx_29_1 (by decide) (D_MemoryReader_counted 27 rfl) ?_
    refine j_iloadn (k := 4) (D_MemoryReader_counted 28 rfl) rfl rfl ?_
    refine j_iloadn (k := 5) (D_MemoryReader_counted 29 rfl) rfl rfl ?_
    refine j_iload (k := 1) (D_MemoryReader_counted 30 rfl) rfl ?_
    refine j_iloadn (k := 2) (D_MemoryReader_counted 31 rfl) rfl rfl ?_
    refine j_ineg (D_MemoryReader_counted 32 rfl) ?_
    refine j_sipush (v := 360) (D_MemoryReader_counted 33 rfl) rfl ?_
    refine j_imul (D_MemoryReader_counted 34 rfl) ?_
    refine j_iload (k := 0) (D_MemoryReader_counted 35 rfl) rfl ?_
    refine j_isub (D_MemoryReader_counted 36 rfl) ?_
    refine j_iloadn (k := 2) (D_MemoryReader_counted 37 rfl) rfl rfl ?_
    refine j_ineg (D_MemoryReader_counted 38 rfl) ?_
    refine j_sipush (v := 360) (D_MemoryReader_counted 39 rfl) rfl ?_
    refine j_imul (D_MemoryReader_counted 40 rfl) ?_
    refine j_iload (k := 0) (D_MemoryReader_counted 41 rfl) rfl ?_
    refine j_iadd (D_MemoryReader_counted 42 rfl) ?_
    refine j_top0 (rfl) ?_
    refine j_top1 (rfl) ?_
    obtain ⟨q9, e9, h⟩ := Option.bind_eq_some_iff.mp h
    refine j_cVv (c_Remembered_put (ha1) (ha2) (w4) (wr_wr _) (wr_wr _) e9) rfl lk_MemoryReader_55 mok_Remembered_put kd_23 lc_23 rfl (by decide) rfl rfl (Nat.le_of_ble_eq_true rfl) (D_MemoryReader_counted 43 rfl) ?_
    refine j_goto (tgt := 141) (D_MemoryReader_counted 44 rfl) rfl ?_
    exact j_vret (D_MemoryReader_counted 69 rfl) rfl rfl rfl (leafV h)
abbrev M_MemoryReader_memory : MI := (⟨"InquestHall$MemoryReader", "memory", "(II)V"⟩, prog_7_method_3_code, 6, none)
theorem cw_MemoryReader_memory : Cond.code M_MemoryReader_memory.1 M_MemoryReader_memory.2.1 M_MemoryReader_memory.2.2.1 M_MemoryReader_memory.2.2.2 ∈ TS := mTS (List.mem_of_getElem? (i := 1166) (by decide +kernel)) (by decide +kernel)
theorem lk_MemoryReader_49 : Cond.methodLink "InquestHall$MemoryReader" 49 M_Text_step.1 ∈ TS := mTS (List.mem_of_getElem? (i := 1190) (by decide +kernel)) (by decide +kernel)
theorem lk_MemoryReader_43 : Cond.methodLink "InquestHall$MemoryReader" 43 M_MemoryReader_counted.1 ∈ TS := mTS (List.mem_of_getElem? (i := 1168) (by decide +kernel)) (by decide +kernel)
theorem mok_MemoryReader_counted : MOK M_MemoryReader_counted 2 := ⟨mTS (List.mem_of_getElem? (i := 1170) (by decide +kernel)) (by decide +kernel), mTS (List.mem_of_getElem? (i := 47) (by decide +kernel)) (by decide +kernel), mTS (List.mem_of_getElem? (i := 133) (by decide +kernel)) (by decide +kernel), cw_MemoryReader_counted, ⟨by decide, by decide, by decide +kernel⟩, by decide +kernel, by decide⟩
def tb_MemoryReader_memory : List (Nat × Instr × Nat) := [(0, .aload_n 0, 1), (1, .getfield 9, 3), (4, .invokevirtual 31, 3), (7, .istore_n 3, 1), (8, .iload_n 3, 1), (9, .iconst 2, 1), (10, .if_icmp .eq 28, 3), (13, .iload_n 3, 1), (14, .sipush 130, 3), (17, .if_icmp .eq 21, 3), (20, .iload_n 3, 1), (21, .sipush 131, 3), (24, .if_icmp .eq 14, 3), (27, .aload_n 0, 1), (28, .getfield 9, 3), (31, .iconst 1, 1), (32, .invokevirtual 39, 3), (35, .goto 114, 3), (38, .iload_n 2, 1), (39, .bipush 24, 2), (41, .if_icmp .lt 14, 3), (44, .aload_n 0, 1), (45, .getfield 9, 3), (48, .iconst 3, 1), (49, .invokevirtual 39, 3), (52, .goto 97, 3), (55, .iload_n 3, 1), (56, .iconst 2, 1), (57, .if_icmp .ne 21, 3), (60, .aload_n 0, 1), (61, .iload_n 1, 1), (62, .iload_n 2, 1), (63, .invokevirtual 43, 3), (66, .aload_n 0, 1), (67, .getfield 9, 3), (70, .bipush 59, 2), (72, .invokevirtual 46, 3), (75, .goto 74, 3), (78, .aload_n 0, 1), (79, .getfield 9, 3), (82, .invokevirtual 49, 3), (85, .aload_n 0, 1), (86, .invokevirtual 52, 3), (89, .istore 4, 2), (91, .iload_n 3, 1), (92, .sipush 130, 3), (95, .if_icmp .ne 7, 3), (98, .iconst 1, 1), (99, .goto 4, 3), (102, .iconst 0, 1), (103, .istore 5, 2), (105, .aload_n 0, 1), (106, .getfield 15, 3), (109, .iload_n 1, 1), (110, .iload_n 2, 1), (111, .iload 4, 2), (113, .iload 5, 2), (115, .ifCond .eq 9, 3), (118, .sipush (-30000), 3), (121, .goto 4, 3), (124, .iconst 1, 1), (125, .iload 5, 2), (127, .ifCond .eq 7, 3), (130, .iconst (-1), 1), (131, .goto 6, 3), (134, .sipush 30000, 3), (137, .invokevirtual 55, 3), (140, .aload_n 0, 1), (141, .getfield 9, 3), (144, .bipush 59, 2), (146, .invokevirtual 46, 3), (149, .return_, 1)]
theorem D_MemoryReader_memory (i : Nat) {pc len : Nat} {ins : Instr} (hi : tb_MemoryReader_memory[i]? = some (pc, ins, len)) : decode M_MemoryReader_memory.2.1 pc = .ok (ins, len) := dec_of (by decide +kernel) i hi
def f_MemoryReader_memory_L137 (G : GS) (s0 : Int) (s1 : Int) (s2 : Int) (s3 : Int) (s4 : Int) : Option (GS) :=
  (f_Remembered_put G s4 s3 s2 s1 s0).bind fun q1 =>
  (f_Text_take q1 59).bind fun q2 =>
  some q2
theorem s_MemoryReader_memory_L137 {X : XT} {r : GS} : ∀ {G : GS} {s0 : Int} {s1 : Int} {s2 : Int} {s3 : Int} {s4 : Int}, wr s0 = s0 → wr s1 = s1 → wr s2 = s2 → wr s3 = s3 → wr s4 = s4 → f_MemoryReader_memory_L137 G s0 s1 s2 s3 s4 = some r → J X true 11 0 0 M_MemoryReader_memory (Rv r) NC 0 0 137 [(0, rf X 29)] [vi s0, vi s1, vi s2, vi s3, vi s4, rf X 23] G := by
  intro G s0 s1 s2 s3 s4 hs0 hs1 hs2 hs3 hs4 h
  unfold f_MemoryReader_memory_L137 at h
  obtain ⟨q1, e1, h⟩ := Option.bind_eq_some_iff.mp h
  refine j_cVv (c_Remembered_put (hs4) (hs3) (hs2) (hs1) (hs0) e1) rfl lk_MemoryReader_55 mok_Remembered_put kd_23 lc_23 rfl (by decide) rfl rfl (Nat.le_of_ble_eq_true rfl) (D_MemoryReader_memory 66 rfl) ?_
  refine j_aloadn (k := 0) (D_MemoryReader_memory 67 rfl) rfl rfl ?_
  refine j_getR rfl fa_MemoryReader_9 kd_29 lc_29 (by decide) rfl fx_29_0 (by decide) (D_MemoryReader_memory 68 rfl) ?_
  refine j_bipush (v := 59) (D_MemoryReader_memory 69 rfl) rfl ?_
  obtain ⟨q2, e2, h⟩ := Option.bind_eq_some_iff.mp h
  refine j_cVv (c_Text_take (wr_lit rfl) e2) rfl lk_MemoryReader_46 mok_Text_take kd_15 lc_15 rfl (by decide) rfl rfl (Nat.le_of_ble_eq_true rfl) (D_MemoryReader_memory 70 rfl) ?_
  exact j_vret (D_MemoryReader_memory 71 rfl) rfl rfl rfl (leafV h)
def f_MemoryReader_memory_L125 (G : GS) (x5 : Int) (s0 : Int) (s1 : Int) (s2 : Int) (s3 : Int) : Option (GS) :=
  if x5 = 0 then
    f_MemoryReader_memory_L137 G 30000 s0 s1 s2 s3
  else
    f_MemoryReader_memory_L137 G (-1) s0 s1 s2 s3
theorem s_MemoryReader_memory_L125 {X : XT} {r : GS} : ∀ {G : GS} {x5 : Int} {s0 : Int} {s1 : Int} {s2 : Int} {s3 : Int}, wr x5 = x5 → wr s0 = s0 → wr s1 = s1 → wr s2 = s2 → wr s3 = s3 → f_MemoryReader_memory_L125 G x5 s0 s1 s2 s3 = some r → J X true 11 0 0 M_MemoryReader_memory (Rv r) NC 0 0 125 [(0, rf X 29), (5, vi x5)] [vi s0, vi s1, vi s2, vi s3, rf X 23] G := by
  intro G x5 s0 s1 s2 s3 hx5 hs0 hs1 hs2 hs3 h
  unfold f_MemoryReader_memory_L125 at h
  refine j_iload (k := 1) (D_MemoryReader_memory 61 rfl) rfl ?_
  refine j_if_eq (tgt := 134) (D_MemoryReader_memory 62 rfl) rfl (hx5) (fun c1 => ?_) (fun c1 => ?_)
  · replace h := ite_t h c1
    refine j_sipush (v := 30000) (D_MemoryReader_memory 65 rfl) rfl ?_
    refine j_loc [0] rfl ?_
    exact s_MemoryReader_memory_L137 (wr_lit rfl) (hs0) (hs1) (hs2) (hs3) h
  · replace h := ite_f h c1
    refine j_iconst (v := (-1)) (D_MemoryReader_memory 63 rfl) rfl ?_
    refine j_goto (tgt := 137) (D_MemoryReader_memory 64 rfl) rfl ?_
    refine j_loc [0] rfl ?_
    exact s_MemoryReader_memory_L137 (wr_lit rfl) (hs0) (hs1) (hs2) (hs3) h
def f_MemoryReader_memory_L103 (G : GS) (x1 : Int) (x2 : Int) (x4 : Int) (s0 : Int) : Option (GS) :=
  if s0 = 0 then
    f_MemoryReader_memory_L125 G s0 1 x4 x2 x1
  else
    f_MemoryReader_memory_L125 G s0 (-30000) x4 x2 x1
theorem s_MemoryReader_memory_L103 {X : XT} {r : GS} : ∀ {G : GS} {x1 : Int} {x2 : Int} {x4 : Int} {s0 : Int}, wr x1 = x1 → wr x2 = x2 → wr x4 = x4 → wr s0 = s0 → f_MemoryReader_memory_L103 G x1 x2 x4 s0 = some r → J X true 11 0 0 M_MemoryReader_memory (Rv r) NC 0 0 103 [(0, rf X 29), (1, vi x1), (2, vi x2), (4, vi x4)] [vi s0] G := by
  intro G x1 x2 x4 s0 hx1 hx2 hx4 hs0 h
  unfold f_MemoryReader_memory_L103 at h
  refine j_istore (L' := [(5, vi s0), (0, rf X 29), (1, vi x1), (2, vi x2), (4, vi x4)]) (D_MemoryReader_memory 50 rfl) (hs0) (by decide) rfl ?_
  refine j_aloadn (k := 1) (D_MemoryReader_memory 51 rfl) rfl rfl ?_
  refine j_getR rfl fa_MemoryReader_15 kd_29 lc_29 (by decide) rfl fx_29_1 (by decide) (D_MemoryReader_memory 52 rfl) ?_
  refine j_iloadn (k := 2) (D_MemoryReader_memory 53 rfl) rfl rfl ?_
  refine j_iloadn (k := 3) (D_MemoryReader_memory 54 rfl) rfl rfl ?_
  refine j_iload (k := 4) (D_MemoryReader_memory 55 rfl) rfl ?_
  refine j_iload (k := 0) (D_MemoryReader_memory 56 rfl) rfl ?_
  refine j_if_eq (tgt := 124) (D_MemoryReader_memory 57 rfl) rfl (hs0) (fun c1 => ?_) (fun c1 => ?_)
  · replace h := ite_t h c1
    refine j_iconst (v := 1) (D_MemoryReader_memory 60 rfl) rfl ?_
    refine j_loc [1, 0] rfl ?_
    exact s_MemoryReader_memory_L125 (hs0) (wr_lit rfl) (hx4) (hx2) (hx1) h
  · replace h := ite_f h c1
    refine j_sipush (v := (-30000)) (D_MemoryReader_memory 58 rfl) rfl ?_
    refine j_goto (tgt := 125) (D_MemoryReader_memory 59 rfl) rfl ?_
    refine j_loc [1, 0] rfl ?_
    exact s_MemoryReader_memory_L125 (hs0) (wr_lit rfl) (hx4) (hx2) (hx1) h
def f_MemoryReader_memory_L38 (G : GS) (x1 : Int) (x2 : Int) (x3 : Int) : Option (GS) :=
  if x2 < 24 then
    if x3 = 2 then
      (f_MemoryReader_counted G x1 x2).bind fun q3 =>
      (f_Text_take q3 59).bind fun q4 =>
      some q4
    else
      (f_Text_step G).bind fun q1 =>
      (f_MemoryReader_takeEvent q1).bind fun q2 =>
      if x3 = 130 then
        f_MemoryReader_memory_L103 q2.2 x1 x2 q2.1 1
      else
        f_MemoryReader_memory_L103 q2.2 x1 x2 q2.1 0
  else
    (f_Text_fail G 3).bind fun q5 =>
    some q5
theorem s_MemoryReader_memory_L38 {X : XT} {r : GS} : ∀ {G : GS} {x1 : Int} {x2 : Int} {x3 : Int}, wr x1 = x1 → wr x2 = x2 → wr x3 = x3 → f_MemoryReader_memory_L38 G x1 x2 x3 = some r → J X true 11 0 0 M_MemoryReader_memory (Rv r) NC 0 0 38 [(0, rf X 29), (1, vi x1), (2, vi x2), (3, vi x3)] [] G := by
  intro G x1 x2 x3 hx1 hx2 hx3 h
  unfold f_MemoryReader_memory_L38 at h
  refine j_iloadn (k := 2) (D_MemoryReader_memory 18 rfl) rfl rfl ?_
  refine j_bipush (v := 24) (D_MemoryReader_memory 19 rfl) rfl ?_
  refine j_ic_lt (tgt := 55) (D_MemoryReader_memory 20 rfl) rfl (hx2) (wr_lit rfl) (fun c1 => ?_) (fun c1 => ?_)
  · replace h := ite_t h c1
    refine j_iloadn (k := 3) (D_MemoryReader_memory 26 rfl) rfl rfl ?_
    refine j_iconst (v := 2) (D_MemoryReader_memory 27 rfl) rfl ?_
    refine j_ic_ne (tgt := 78) (D_MemoryReader_memory 28 rfl) rfl (hx3) (wr_lit rfl) (fun c2 => ?_) (fun c2 => ?_)
    · replace h := ite_f h c2
      refine j_aloadn (k := 0) (D_MemoryReader_memory 38 rfl) rfl rfl ?_
      refine j_getR rfl fa_MemoryReader_9 kd_29 lc_29 (by decide) rfl fx_29_0 (by decide) (D_MemoryReader_memory 39 rfl) ?_
      obtain ⟨q1, e1, h⟩ := Option.bind_eq_some_iff.mp h
      refine j_cVv (c_Text_step e1) rfl lk_MemoryReader_49 mok_Text_step kd_15 lc_15 rfl (by decide) rfl rfl (Nat.le_of_ble_eq_true rfl) (D_MemoryReader_memory 40 rfl) ?_
      refine j_aloadn (k := 0) (D_MemoryReader_memory 41 rfl) rfl rfl ?_
      obtain ⟨q2, e2, h⟩ := Option.bind_eq_some_iff.mp h
      refine j_cVi (c_MemoryReader_takeEvent e2) rfl lk_MemoryReader_52 mok_MemoryReader_takeEvent kd_29 lc_29 rfl (by decide) rfl rfl (Nat.le_of_ble_eq_true rfl) (D_MemoryReader_memory 42 rfl) (fun w1 => ?_)
      refine j_istore (L' := [(4, vi q2.1), (0, rf X 29), (1, vi x1), (2, vi x2), (3, vi x3)]) (D_MemoryReader_memory 43 rfl) (w1) (by decide) rfl ?_
      refine j_iloadn (k := 4) (D_MemoryReader_memory 44 rfl) rfl rfl ?_
      refine j_sipush (v := 130) (D_MemoryReader_memory 45 rfl) rfl ?_
      refine j_ic_ne (tgt := 102) (D_MemoryReader_memory 46 rfl) rfl (hx3) (wr_lit rfl) (fun c3 => ?_) (fun c3 => ?_)
      · replace h := ite_f h c3
        refine j_iconst (v := 0) (D_MemoryReader_memory 49 rfl) rfl ?_
        refine j_loc [1, 2, 3, 0] rfl ?_
        exact s_MemoryReader_memory_L103 (hx1) (hx2) (w1) (wr_lit rfl) h
      · replace h := ite_t h c3
        refine j_iconst (v := 1) (D_MemoryReader_memory 47 rfl) rfl ?_
        refine j_goto (tgt := 103) (D_MemoryReader_memory 48 rfl) rfl ?_
        refine j_loc [1, 2, 3, 0] rfl ?_
        exact s_MemoryReader_memory_L103 (hx1) (hx2) (w1) (wr_lit rfl) h
    · replace h := ite_t h c2
      refine j_aloadn (k := 0) (D_MemoryReader_memory 29 rfl) rfl rfl ?_
      refine j_iloadn (k := 1) (D_MemoryReader_memory 30 rfl) rfl rfl ?_
      refine j_iloadn (k := 2) (D_MemoryReader_memory 31 rfl) rfl rfl ?_
      obtain ⟨q3, e3, h⟩ := Option.bind_eq_some_iff.mp h
      refine j_cVv (c_MemoryReader_counted (hx1) (hx2) e3) rfl lk_MemoryReader_43 mok_MemoryReader_counted kd_29 lc_29 rfl (by decide) rfl rfl (Nat.le_of_ble_eq_true rfl) (D_MemoryReader_memory 32 rfl) ?_
      refine j_aloadn (k := 0) (D_MemoryReader_memory 33 rfl) rfl rfl ?_
      refine j_getR rfl fa_MemoryReader_9 kd_29 lc_29 (by decide) rfl fx_29_0 (by decide) (D_MemoryReader_memory 34 rfl) ?_
      refine j_bipush (v := 59) (D_MemoryReader_memory 35 rfl) rfl ?_
      obtain ⟨q4, e4, h⟩ := Option.bind_eq_some_iff.mp h
      refine j_cVv (c_Text_take (wr_lit rfl) e4) rfl lk_MemoryReader_46 mok_Text_take kd_15 lc_15 rfl (by decide) rfl rfl (Nat.le_of_ble_eq_true rfl) (D_MemoryReader_memory 36 rfl) ?_
      refine j_goto (tgt := 149) (D_MemoryReader_memory 37 rfl) rfl ?_
      exact j_vret (D_MemoryReader_memory 71 rfl) rfl rfl rfl (leafV h)
  · replace h := ite_f h c1
    refine j_aloadn (k := 0) (D_MemoryReader_memory 21 rfl) rfl rfl ?_
    refine j_getR rfl fa_MemoryReader_9 kd_29 lc_29 (by decide) rfl fx_29_0 (by decide) (D_MemoryReader_memory 22 rfl) ?_
    refine j_iconst (v := 3) (D_MemoryReader_memory 23 rfl) rfl ?_
    obtain ⟨q5, e5, h⟩ := Option.bind_eq_some_iff.mp h
    refine j_cVv (c_Text_fail (wr_lit rfl) e5) rfl lk_MemoryReader_39 mok_Text_fail kd_15 lc_15 rfl (by decide) rfl rfl (Nat.le_of_ble_eq_true rfl) (D_MemoryReader_memory 24 rfl) ?_
    refine j_goto (tgt := 149) (D_MemoryReader_memory 25 rfl) rfl ?_
    exact j_vret (D_MemoryReader_memory 71 rfl) rfl rfl rfl (leafV h)
def f_MemoryReader_memory (G : GS) (a1 : Int) (a2 : Int) : Option (GS) :=
  (f_Text_kind G).bind fun q1 =>
  if q1 = 2 then
    f_MemoryReader_memory_L38 G a1 a2 q1
  else
    if q1 = 130 then
      f_MemoryReader_memory_L38 G a1 a2 q1
    else
      if q1 = 131 then
        f_MemoryReader_memory_L38 G a1 a2 q1
      else
        (f_Text_fail G 1).bind fun q2 =>
        some q2
theorem c_MemoryReader_memory {X : XT} {G : GS} {a1 : Int} {a2 : Int} {r : GS} (ha1 : wr a1 = a1) (ha2 : wr a2 = a2) (h : f_MemoryReader_memory G a1 a2 = some r) : Call X true 11 0 0 M_MemoryReader_memory [rf X 29, vi a1, vi a2] NC G (Rv r) := by
  refine Call_of_J cw_MemoryReader_memory (by decide +kernel) (Nat.le_of_ble_eq_true rfl) ?_
  unfold f_MemoryReader_memory at h
  show J X true 11 0 0 M_MemoryReader_memory (Rv r) NC 0 0 0 [(0, rf X 29), (1, vi a1), (2, vi a2)] [] G
  refine j_aloadn (k := 0) (D_MemoryReader_memory 0 rfl) rfl rfl ?_
  refine j_getR rfl fa_MemoryReader_9 kd_29 lc_29 (by decide) rfl fx_29_0 (by decide) (D_MemoryReader_memory 1 rfl) ?_
  obtain ⟨q1, e1, h⟩ := Option.bind_eq_some_iff.mp h
  refine j_cVi (c_Text_kind e1) rfl lk_MemoryReader_31 mok_Text_kind kd_15 lc_15 rfl (by decide) rfl rfl (Nat.le_of_ble_eq_true rfl) (D_MemoryReader_memory 2 rfl) (fun w1 => ?_)
  refine j_istoren (L' := [(3, vi q1), (0, rf X 29), (1, vi a1), (2, vi a2)]) (D_MemoryReader_memory 3 rfl) rfl (w1) (by decide) rfl ?_
  refine j_iloadn (k := 0) (D_MemoryReader_memory 4 rfl) rfl rfl ?_
  refine j_iconst (v := 2) (D_MemoryReader_memory 5 rfl) rfl ?_
  refine j_ic_eq (tgt := 38) (D_MemoryReader_memory 6 rfl) rfl (w1) (wr_lit rfl) (fun c1 => ?_) (fun c1 => ?_)
  · replace h := ite_t h c1
    refine j_loc [1, 2, 3, 0] rfl ?_
    exact s_MemoryReader_memory_L38 (ha1) (ha2) (w1) h
  · replace h := ite_f h c1
    refine j_iloadn (k := 0) (D_MemoryReader_memory 7 rfl) rfl rfl ?_
    refine j_sipush (v := 130) (D_MemoryReader_memory 8 rfl) rfl ?_
    refine j_ic_eq (tgt := 38) (D_MemoryReader_memory 9 rfl) rfl (w1) (wr_lit rfl) (fun c2 => ?_) (fun c2 => ?_)
    · replace h := ite_t h c2
      refine j_loc [1, 2, 3, 0] rfl ?_
      exact s_MemoryReader_memory_L38 (ha1) (ha2) (w1) h
    · replace h := ite_f h c2
      refine j_iloadn (k := 0) (D_MemoryReader_memory 10 rfl) rfl rfl ?_
      refine j_sipush (v := 131) (D_MemoryReader_memory 11 rfl) rfl ?_
      refine j_ic_eq (tgt := 38) (D_MemoryReader_memory 12 rfl) rfl (w1) (wr_lit rfl) (fun c3 => ?_) (fun c3 => ?_)
      · replace h := ite_t h c3
        refine j_loc [1, 2, 3, 0] rfl ?_
        exact s_MemoryReader_memory_L38 (ha1) (ha2) (w1) h
      · replace h := ite_f h c3
        refine j_aloadn (k := 1) (D_MemoryReader_memory 13 rfl) rfl rfl ?_
        refine j_getR rfl fa_MemoryReader_9 kd_29 lc_29 (by decide) rfl fx_29_0 (by decide) (D_MemoryReader_memory 14 rfl) ?_
        refine j_iconst (v := 1) (D_MemoryReader_memory 15 rfl) rfl ?_
        obtain ⟨q2, e2, h⟩ := Option.bind_eq_some_iff.mp h
        refine j_cVv (c_Text_fail (wr_lit rfl) e2) rfl lk_MemoryReader_39 mok_Text_fail kd_15 lc_15 rfl (by decide) rfl rfl (Nat.le_of_ble_eq_true rfl) (D_MemoryReader_memory 16 rfl) ?_
        refine j_goto (tgt := 149) (D_MemoryReader_memory 17 rfl) rfl ?_
        exact j_vret (D_MemoryReader_memory 71 rfl) rfl rfl rfl (leafV h)
abbrev M_MemoryReader_read : MI := (⟨"InquestHall$MemoryReader", "read", "(I)I"⟩, prog_7_method_2_code, 5, (some .int))
theorem cw_MemoryReader_read : Cond.code M_MemoryReader_read.1 M_MemoryReader_read.2.1 M_MemoryReader_read.2.2.1 M_MemoryReader_read.2.2.2 ∈ TS := mTS (List.mem_of_getElem? (i := 1161) (by decide +kernel)) (by decide +kernel)
theorem fa_MemoryReader_19 : FA "InquestHall$MemoryReader" 19 5 1 true (.array .int) := ⟨_, _, _, _, ok_Remembered, by decide, mTS (List.mem_of_getElem? (i := 375) (by decide +kernel)) (by decide +kernel), rfl, rfl⟩
theorem lk_MemoryReader_35 : Cond.methodLink "InquestHall$MemoryReader" 35 M_MemoryReader_memory.1 ∈ TS := mTS (List.mem_of_getElem? (i := 1163) (by decide +kernel)) (by decide +kernel)
theorem mok_MemoryReader_memory : MOK M_MemoryReader_memory 2 := ⟨mTS (List.mem_of_getElem? (i := 1165) (by decide +kernel)) (by decide +kernel), mTS (List.mem_of_getElem? (i := 46) (by decide +kernel)) (by decide +kernel), mTS (List.mem_of_getElem? (i := 133) (by decide +kernel)) (by decide +kernel), cw_MemoryReader_memory, ⟨by decide, by decide, by decide +kernel⟩, by decide +kernel, by decide⟩
def tb_MemoryReader_read : List (Nat × Instr × Nat) := [(0, .aload_n 0, 1), (1, .getfield 15, 3), (4, .getfield 19, 3), (7, .iload_n 1, 1), (8, .iaload, 1), (9, .istore_n 2, 1), (10, .iconst 0, 1), (11, .istore_n 3, 1), (12, .iconst 0, 1), (13, .istore 4, 2), (15, .iload 4, 2), (17, .sipush 800, 3), (20, .if_icmp .gt 46, 3), (23, .aload_n 0, 1), (24, .getfield 9, 3), (27, .getfield 27, 3), (30, .ifCond .ne 36, 3), (33, .iload 4, 2), (35, .ifCond .eq 13, 3), (38, .aload_n 0, 1), (39, .getfield 9, 3), (42, .invokevirtual 31, 3), (45, .ifCond .eq 21, 3), (48, .aload_n 0, 1), (49, .iload_n 1, 1), (50, .iload_n 2, 1), (51, .iload 4, 2), (53, .iadd, 1), (54, .invokevirtual 35, 3), (57, .iinc 3 1, 3), (60, .iinc 4 1, 3), (63, .goto (-48), 3), (66, .aload_n 0, 1), (67, .getfield 9, 3), (70, .getfield 27, 3), (73, .ifCond .eq 5, 3), (76, .iconst (-1), 1), (77, .ireturn, 1), (78, .aload_n 0, 1), (79, .getfield 15, 3), (82, .getfield 19, 3), (85, .iload_n 1, 1), (86, .iload_n 2, 1), (87, .iload_n 3, 1), (88, .iadd, 1), (89, .iastore, 1), (90, .iload_n 3, 1), (91, .ireturn, 1)]
theorem D_MemoryReader_read (i : Nat) {pc len : Nat} {ins : Instr} (hi : tb_MemoryReader_read[i]? = some (pc, ins, len)) : decode M_MemoryReader_read.2.1 pc = .ok (ins, len) := dec_of (by decide +kernel) i hi
def f_MemoryReader_read_L66 (G : GS) (x1 : Int) (x2 : Int) (x3 : Int) : Option (Int × GS) :=
  if gi G 15 8 = 0 then
    gd (0 ≤ x1 ∧ x1 < 32) <|
    wG (si G 25 x1.toNat (x2 + x3)) fun G1 =>
    some (x3, G1)
  else
    some ((-1), G)
theorem s_MemoryReader_read_L66 {X : XT} {r : Int × GS} : ∀ {G : GS} {x1 : Int} {x2 : Int} {x3 : Int}, wr x1 = x1 → wr x2 = x2 → wr x3 = x3 → f_MemoryReader_read_L66 G x1 x2 x3 = some r → J X true 12 0 0 M_MemoryReader_read (Ri r.1 r.2) NC 0 0 66 [(0, rf X 29), (1, vi x1), (2, vi x2), (3, vi x3)] [] G := by
  intro G x1 x2 x3 hx1 hx2 hx3 h
  unfold f_MemoryReader_read_L66 at h
  refine j_aloadn (k := 0) (D_MemoryReader_read 32 rfl) rfl rfl ?_
  refine j_getR rfl fa_MemoryReader_9 kd_29 lc_29 (by decide) rfl fx_29_0 (by decide) (D_MemoryReader_read 33 rfl) ?_
  refine j_getI rfl fa_MemoryReader_27 kd_15 lc_15 (by decide) rfl (D_MemoryReader_read 34 rfl) ?_
  refine j_if_eq (tgt := 78) (D_MemoryReader_read 35 rfl) rfl (wr_gi _ _ _) (fun c1 => ?_) (fun c1 => ?_)
  · replace h := ite_t h c1
    refine j_aloadn (k := 0) (D_MemoryReader_read 38 rfl) rfl rfl ?_
    refine j_getR rfl fa_MemoryReader_15 kd_29 lc_29 (by decide) rfl fx_29_1 (by decide) (D_MemoryReader_read 39 rfl) ?_
    refine j_getR rfl fa_MemoryReader_19 kd_23 lc_23 (by decide) rfl fx_23_1 (by decide) (D_MemoryReader_read 40 rfl) ?_
    refine j_iloadn (k := 1) (D_MemoryReader_read 41 rfl) rfl rfl ?_
    refine j_iloadn (k := 2) (D_MemoryReader_read 42 rfl) rfl rfl ?_
    refine j_iloadn (k := 3) (D_MemoryReader_read 43 rfl) rfl rfl ?_
    refine j_iadd (D_MemoryReader_read 44 rfl) ?_
    have g1 := gd_c h
    replace h := gd_s h
    refine j_iast (NI := 32) (D_MemoryReader_read 45 rfl) kd_25 lc_25 (hx1) rfl g1.1 g1.2 ?_
    refine j_gen (fun G1 e1 => ?_)
    replace h := wG_at h e1
    refine j_iloadn (k := 3) (D_MemoryReader_read 46 rfl) rfl rfl ?_
    exact j_iret (D_MemoryReader_read 47 rfl) rfl (hx3) rfl rfl (leafI h (wr_n (hx3)))
  · replace h := ite_f h c1
    refine j_iconst (v := (-1)) (D_MemoryReader_read 36 rfl) rfl ?_
    exact j_iret (D_MemoryReader_read 37 rfl) rfl (wr_lit rfl) rfl rfl (leafI h (wr_n (wr_lit rfl)))
def f_MemoryReader_read_L48 (k15 : GS → Int → Int → Int → Int → Option (Int × GS)) (G : GS) (x1 : Int) (x2 : Int) (x3 : Int) (x4 : Int) : Option (Int × GS) :=
  (f_MemoryReader_memory G x1 (wr (x2 + x4))).bind fun q1 =>
  k15 q1 x1 x2 (wr (x3 + 1)) (wr (x4 + 1))
theorem s_MemoryReader_read_L48 {X : XT} {r : Int × GS} {k15 : GS → Int → Int → Int → Int → Option (Int × GS)} (hk15 : ∀ {G : GS} {x1 : Int} {x2 : Int} {x3 : Int} {x4 : Int} , wr x1 = x1 → wr x2 = x2 → wr x3 = x3 → wr x4 = x4 → k15 G x1 x2 x3 x4 = some r → J X true 12 0 0 M_MemoryReader_read (Ri r.1 r.2) NC 0 0 15 [(0, rf X 29), (1, vi x1), (2, vi x2), (3, vi x3), (4, vi x4)] [] G) : ∀ {G : GS} {x1 : Int} {x2 : Int} {x3 : Int} {x4 : Int}, wr x1 = x1 → wr x2 = x2 → wr x3 = x3 → wr x4 = x4 → f_MemoryReader_read_L48 k15 G x1 x2 x3 x4 = some r → J X true 12 0 0 M_MemoryReader_read (Ri r.1 r.2) NC 0 0 48 [(0, rf X 29), (1, vi x1), (2, vi x2), (3, vi x3), (4, vi x4)] [] G := by
  intro G x1 x2 x3 x4 hx1 hx2 hx3 hx4 h
  unfold f_MemoryReader_read_L48 at h
  refine j_aloadn (k := 0) (D_MemoryReader_read 23 rfl) rfl rfl ?_
  refine j_iloadn (k := 1) (D_MemoryReader_read 24 rfl) rfl rfl ?_
  refine j_iloadn (k := 2) (D_MemoryReader_read 25 rfl) rfl rfl ?_
  refine j_iload (k := 4) (D_MemoryReader_read 26 rfl) rfl ?_
  refine j_iadd (D_MemoryReader_read 27 rfl) ?_
  refine j_top0 (rfl) ?_
  obtain ⟨q1, e1, h⟩ := Option.bind_eq_some_iff.mp h
  refine j_cVv (c_MemoryReader_memory (hx1) (wr_wr _) e1) rfl lk_MemoryReader_35 mok_MemoryReader_memory kd_29 lc_29 rfl (by decide) rfl rfl (Nat.le_of_ble_eq_true rfl) (D_MemoryReader_read 28 rfl) ?_
  refine j_iinc (k := 3) (L' := [(3, vi (wr (x3 + 1))), (0, rf X 29), (1, vi x1), (2, vi x2), (4, vi x4)]) (D_MemoryReader_read 29 rfl) rfl rfl (by decide) rfl ?_
  refine j_iinc (k := 4) (L' := [(4, vi (wr (x4 + 1))), (3, vi (wr (x3 + 1))), (0, rf X 29), (1, vi x1), (2, vi x2)]) (D_MemoryReader_read 30 rfl) rfl rfl (by decide) rfl ?_
  refine j_goto (tgt := 15) (D_MemoryReader_read 31 rfl) rfl ?_
  refine j_loc [2, 3, 4, 1, 0] rfl ?_
  exact hk15 (hx1) (hx2) (wr_wr _) (wr_wr _) h
def f_MemoryReader_read_L15 : Nat → GS → Int → Int → Int → Int → Option (Int × GS)
  | 0, _, _, _, _, _ => none
  | n + 1, G, x1, x2, x3, x4 =>
    if 800 < x4 then
      f_MemoryReader_read_L66 G x1 x2 x3
    else
      if gi G 15 8 = 0 then
        if x4 = 0 then
          f_MemoryReader_read_L48 (f_MemoryReader_read_L15 n) G x1 x2 x3 x4
        else
          (f_Text_kind G).bind fun q1 =>
          if q1 = 0 then
            f_MemoryReader_read_L66 G x1 x2 x3
          else
            f_MemoryReader_read_L48 (f_MemoryReader_read_L15 n) G x1 x2 x3 x4
      else
        f_MemoryReader_read_L66 G x1 x2 x3
theorem s_MemoryReader_read_L15 {X : XT} {r : Int × GS} : ∀ (n : Nat) {G : GS} {x1 : Int} {x2 : Int} {x3 : Int} {x4 : Int}, wr x1 = x1 → wr x2 = x2 → wr x3 = x3 → wr x4 = x4 → f_MemoryReader_read_L15 n G x1 x2 x3 x4 = some r → J X true 12 0 0 M_MemoryReader_read (Ri r.1 r.2) NC 0 0 15 [(0, rf X 29), (1, vi x1), (2, vi x2), (3, vi x3), (4, vi x4)] [] G := by
  intro n
  induction n with
  | zero =>
    intro G x1 x2 x3 x4 hx1 hx2 hx3 hx4 h
    exact none_some h
  | succ n ih =>
    intro G x1 x2 x3 x4 hx1 hx2 hx3 hx4 h
    rw [f_MemoryReader_read_L15] at h
    refine j_iload (k := 4) (D_MemoryReader_read 10 rfl) rfl ?_
    refine j_sipush (v := 800) (D_MemoryReader_read 11 rfl) rfl ?_
    refine j_ic_gt (tgt := 66) (D_MemoryReader_read 12 rfl) rfl (hx4) (wr_lit rfl) (fun c1 => ?_) (fun c1 => ?_)
    · replace h := ite_t h c1
      refine j_loc [0, 1, 2, 3] rfl ?_
      exact s_MemoryReader_read_L66 (hx1) (hx2) (hx3) h
    · replace h := ite_f h c1
      refine j_aloadn (k := 0) (D_MemoryReader_read 13 rfl) rfl rfl ?_
      refine j_getR rfl fa_MemoryReader_9 kd_29 lc_29 (by decide) rfl fx_29_0 (by decide) (D_MemoryReader_read 14 rfl) ?_
      refine j_getI rfl fa_MemoryReader_27 kd_15 lc_15 (by decide) rfl (D_MemoryReader_read 15 rfl) ?_
      refine j_if_ne (tgt := 66) (D_MemoryReader_read 16 rfl) rfl (wr_gi _ _ _) (fun c2 => ?_) (fun c2 => ?_)
      · replace h := ite_f h c2
        refine j_loc [0, 1, 2, 3] rfl ?_
        exact s_MemoryReader_read_L66 (hx1) (hx2) (hx3) h
      · replace h := ite_t h c2
        refine j_iload (k := 4) (D_MemoryReader_read 17 rfl) rfl ?_
        refine j_if_eq (tgt := 48) (D_MemoryReader_read 18 rfl) rfl (hx4) (fun c3 => ?_) (fun c3 => ?_)
        · replace h := ite_t h c3
          refine j_loc [0, 1, 2, 3, 4] rfl ?_
          exact s_MemoryReader_read_L48 ih (hx1) (hx2) (hx3) (hx4) h
        · replace h := ite_f h c3
          refine j_aloadn (k := 0) (D_MemoryReader_read 19 rfl) rfl rfl ?_
          refine j_getR rfl fa_MemoryReader_9 kd_29 lc_29 (by decide) rfl fx_29_0 (by decide) (D_MemoryReader_read 20 rfl) ?_
          obtain ⟨q1, e1, h⟩ := Option.bind_eq_some_iff.mp h
          refine j_cVi (c_Text_kind e1) rfl lk_MemoryReader_31 mok_Text_kind kd_15 lc_15 rfl (by decide) rfl rfl (Nat.le_of_ble_eq_true rfl) (D_MemoryReader_read 21 rfl) (fun w1 => ?_)
          refine j_if_eq (tgt := 66) (D_MemoryReader_read 22 rfl) rfl (w1) (fun c4 => ?_) (fun c4 => ?_)
          · replace h := ite_t h c4
            refine j_loc [0, 1, 2, 3] rfl ?_
            exact s_MemoryReader_read_L66 (hx1) (hx2) (hx3) h
          · replace h := ite_f h c4
            refine j_loc [0, 1, 2, 3, 4] rfl ?_
            exact s_MemoryReader_read_L48 ih (hx1) (hx2) (hx3) (hx4) h
def f_MemoryReader_read (G : GS) (a1 : Int) : Option (Int × GS) :=
  gd (0 ≤ a1 ∧ a1 < 32) <|
  f_MemoryReader_read_L15 FU G a1 (gi G 25 a1.toNat) 0 0
theorem c_MemoryReader_read {X : XT} {G : GS} {a1 : Int} {r : Int × GS} (ha1 : wr a1 = a1) (h : f_MemoryReader_read G a1 = some r) : Call X true 12 0 0 M_MemoryReader_read [rf X 29, vi a1] NC G (Ri r.1 r.2) := by
  refine Call_of_J cw_MemoryReader_read (by decide +kernel) (Nat.le_of_ble_eq_true rfl) ?_
  unfold f_MemoryReader_read at h
  show J X true 12 0 0 M_MemoryReader_read (Ri r.1 r.2) NC 0 0 0 [(0, rf X 29), (1, vi a1)] [] G
  refine j_aloadn (k := 0) (D_MemoryReader_read 0 rfl) rfl rfl ?_
  refine j_getR rfl fa_MemoryReader_15 kd_29 lc_29 (by decide) rfl fx_29_1 (by decide) (D_MemoryReader_read 1 rfl) ?_
  refine j_getR rfl fa_MemoryReader_19 kd_23 lc_23 (by decide) rfl fx_23_1 (by decide) (D_MemoryReader_read 2 rfl) ?_
  refine j_iloadn (k := 1) (D_MemoryReader_read 3 rfl) rfl rfl ?_
  have g1 := gd_c h
  replace h := gd_s h
  refine j_iald (NI := 32) (D_MemoryReader_read 4 rfl) kd_25 lc_25 (ha1) rfl g1.1 g1.2 ?_
  refine j_istoren (L' := [(2, vi (gi G 25 a1.toNat)), (0, rf X 29), (1, vi a1)]) (D_MemoryReader_read 5 rfl) rfl (wr_gi _ _ _) (by decide) rfl ?_
  refine j_iconst (v := 0) (D_MemoryReader_read 6 rfl) rfl ?_
  refine j_istoren (L' := [(3, vi 0), (2, vi (gi G 25 a1.toNat)), (0, rf X 29), (1, vi a1)]) (D_MemoryReader_read 7 rfl) rfl (wr_lit rfl) (by decide) rfl ?_
  refine j_iconst (v := 0) (D_MemoryReader_read 8 rfl) rfl ?_
  refine j_istore (L' := [(4, vi 0), (3, vi 0), (2, vi (gi G 25 a1.toNat)), (0, rf X 29), (1, vi a1)]) (D_MemoryReader_read 9 rfl) (wr_lit rfl) (by decide) rfl ?_
  refine j_loc [3, 4, 2, 1, 0] rfl ?_
  exact s_MemoryReader_read_L15 FU (ha1) (wr_gi _ _ _) (wr_lit rfl) (wr_lit rfl) h
abbrev M_Hall_memories : MI := (⟨"InquestHall", "memories", "(I)I"⟩, prog_1_method_27_code, 2, (some .int))
theorem cw_Hall_memories : Cond.code M_Hall_memories.1 M_Hall_memories.2.1 M_Hall_memories.2.2.1 M_Hall_memories.2.2.2 ∈ TS := mTS (List.mem_of_getElem? (i := 1157) (by decide +kernel)) (by decide +kernel)
theorem fa_Hall_51 : FA "InquestHall" 51 0 5 true (.object "InquestHall$MemoryReader") := ⟨_, _, _, _, ok_Hall, by decide, mTS (List.mem_of_getElem? (i := 597) (by decide +kernel)) (by decide +kernel), rfl, rfl⟩
theorem fx_0_5 {G : GS} (w : WF true NC G) : G.2.2 0 5 = 29 := w.2 rfl (0, 5, 29) (by decide)
theorem lk_Hall_306 : Cond.methodLink "InquestHall" 306 M_MemoryReader_read.1 ∈ TS := mTS (List.mem_of_getElem? (i := 1158) (by decide +kernel)) (by decide +kernel)
theorem mok_MemoryReader_read : MOK M_MemoryReader_read 1 := ⟨mTS (List.mem_of_getElem? (i := 1159) (by decide +kernel)) (by decide +kernel), mTS (List.mem_of_getElem? (i := 1160) (by decide +kernel)) (by decide +kernel), mTS (List.mem_of_getElem? (i := 133) (by decide +kernel)) (by decide +kernel), cw_MemoryReader_read, ⟨by decide, by decide, by decide +kernel⟩, by decide +kernel, by decide⟩
def tb_Hall_memories : List (Nat × Instr × Nat) := [(0, .aload_n 0, 1), (1, .getfield 12, 3), (4, .iload_n 1, 1), (5, .invokevirtual 122, 3), (8, .ifCond .ne 13, 3), (11, .aload_n 0, 1), (12, .getfield 26, 3), (15, .iconst 0, 1), (16, .putfield 158, 3), (19, .iconst (-1), 1), (20, .ireturn, 1), (21, .aload_n 0, 1), (22, .getfield 26, 3), (25, .invokevirtual 165, 3), (28, .aload_n 0, 1), (29, .getfield 51, 3), (32, .iload_n 1, 1), (33, .invokevirtual 306, 3), (36, .ireturn, 1)]
theorem D_Hall_memories (i : Nat) {pc len : Nat} {ins : Instr} (hi : tb_Hall_memories[i]? = some (pc, ins, len)) : decode M_Hall_memories.2.1 pc = .ok (ins, len) := dec_of (by decide +kernel) i hi
def f_Hall_memories (G : GS) (a1 : Int) : Option (Int × GS) :=
  (f_People_has G a1).bind fun q1 =>
  if q1 = 0 then
    wG (si G 15 1 0) fun G1 =>
    some ((-1), G1)
  else
    (f_Text_scan G).bind fun q2 =>
    (f_MemoryReader_read q2 a1).bind fun q3 =>
    some (q3.1, q3.2)
theorem c_Hall_memories {X : XT} {G : GS} {a1 : Int} {r : Int × GS} (ha1 : wr a1 = a1) (h : f_Hall_memories G a1 = some r) : Call X true 13 0 0 M_Hall_memories [rf X 0, vi a1] NC G (Ri r.1 r.2) := by
  refine Call_of_J cw_Hall_memories (by decide +kernel) (Nat.le_of_ble_eq_true rfl) ?_
  unfold f_Hall_memories at h
  show J X true 13 0 0 M_Hall_memories (Ri r.1 r.2) NC 0 0 0 [(0, rf X 0), (1, vi a1)] [] G
  refine j_aloadn (k := 0) (D_Hall_memories 0 rfl) rfl rfl ?_
  refine j_getR rfl fa_Hall_12 kd_0 lc_0 (by decide) rfl fx_0_0 (by decide) (D_Hall_memories 1 rfl) ?_
  refine j_iloadn (k := 1) (D_Hall_memories 2 rfl) rfl rfl ?_
  obtain ⟨q1, e1, h⟩ := Option.bind_eq_some_iff.mp h
  refine j_cVz (c_People_has (ha1) e1) rfl lk_Hall_122 mok_People_has kd_1 lc_1 rfl (by decide) rfl rfl (Nat.le_of_ble_eq_true rfl) (D_Hall_memories 3 rfl) (fun w1 bw1 => ?_)
  refine j_if_ne (tgt := 21) (D_Hall_memories 4 rfl) rfl (w1) (fun c1 => ?_) (fun c1 => ?_)
  · replace h := ite_f h c1
    refine j_aloadn (k := 0) (D_Hall_memories 11 rfl) rfl rfl ?_
    refine j_getR rfl fa_Hall_26 kd_0 lc_0 (by decide) rfl fx_0_2 (by decide) (D_Hall_memories 12 rfl) ?_
    obtain ⟨q2, e2, h⟩ := Option.bind_eq_some_iff.mp h
    refine j_cVv (c_Text_scan e2) rfl lk_Hall_165 mok_Text_scan kd_15 lc_15 rfl (by decide) rfl rfl (Nat.le_of_ble_eq_true rfl) (D_Hall_memories 13 rfl) ?_
    refine j_aloadn (k := 0) (D_Hall_memories 14 rfl) rfl rfl ?_
    refine j_getR rfl fa_Hall_51 kd_0 lc_0 (by decide) rfl fx_0_5 (by decide) (D_Hall_memories 15 rfl) ?_
    refine j_iloadn (k := 1) (D_Hall_memories 16 rfl) rfl rfl ?_
    obtain ⟨q3, e3, h⟩ := Option.bind_eq_some_iff.mp h
    refine j_cVi (c_MemoryReader_read (ha1) e3) rfl lk_Hall_306 mok_MemoryReader_read kd_29 lc_29 rfl (by decide) rfl rfl (Nat.le_of_ble_eq_true rfl) (D_Hall_memories 17 rfl) (fun w2 => ?_)
    exact j_iret (D_Hall_memories 18 rfl) rfl (w2) rfl rfl (leafI h (wr_n (w2)))
  · replace h := ite_t h c1
    refine j_aloadn (k := 0) (D_Hall_memories 5 rfl) rfl rfl ?_
    refine j_getR rfl fa_Hall_26 kd_0 lc_0 (by decide) rfl fx_0_2 (by decide) (D_Hall_memories 6 rfl) ?_
    refine j_iconst (v := 0) (D_Hall_memories 7 rfl) rfl ?_
    refine j_putI rfl fa_Hall_158 kd_15 lc_15 (by decide) rfl (D_Hall_memories 8 rfl) ?_
    refine j_gen (fun G1 e4 => ?_)
    replace h := wG_at h e4
    refine j_iconst (v := (-1)) (D_Hall_memories 9 rfl) rfl ?_
    exact j_iret (D_Hall_memories 10 rfl) rfl (wr_lit rfl) rfl rfl (leafI h (wr_n (wr_lit rfl)))
abbrev M_Model_anEvent : MI := (⟨"InquestHallModel", "anEvent", "()Z"⟩, prog_14_method_87_code, 1, (some .boolean))
theorem cw_Model_anEvent : Cond.code M_Model_anEvent.1 M_Model_anEvent.2.1 M_Model_anEvent.2.2.1 M_Model_anEvent.2.2.2 ∈ TS := mTS (List.mem_of_getElem? (i := 1948) (by decide +kernel)) (by decide +kernel)
def tb_Model_anEvent : List (Nat × Instr × Nat) := [(0, .aload_n 0, 1), (1, .getfield 314, 3), (4, .iconst 2, 1), (5, .if_icmp .eq 9, 3), (8, .aload_n 0, 1), (9, .iconst 1, 1), (10, .invokevirtual 341, 3), (13, .ireturn, 1), (14, .aload_n 0, 1), (15, .getfield 332, 3), (18, .bipush 16, 2), (20, .if_icmp .ge 16, 3), (23, .aload_n 0, 1), (24, .getfield 160, 3), (27, .aload_n 0, 1), (28, .getfield 332, 3), (31, .iaload, 1), (32, .iconst (-1), 1), (33, .if_icmp .ne 9, 3), (36, .aload_n 0, 1), (37, .iconst 2, 1), (38, .invokevirtual 341, 3), (41, .ireturn, 1), (42, .aload_n 0, 1), (43, .aload_n 0, 1), (44, .getfield 332, 3), (47, .putfield 347, 3), (50, .aload_n 0, 1), (51, .invokevirtual 344, 3), (54, .iconst 1, 1), (55, .ireturn, 1)]
theorem D_Model_anEvent (i : Nat) {pc len : Nat} {ins : Instr} (hi : tb_Model_anEvent[i]? = some (pc, ins, len)) : decode M_Model_anEvent.2.1 pc = .ok (ins, len) := dec_of (by decide +kernel) i hi
def f_Model_anEvent_L36 (G : GS) : Option (Int × GS) :=
  (f_Model_bad G 2).bind fun q1 =>
  some (q1.1, q1.2)
theorem s_Model_anEvent_L36 {X : XT} {r : Int × GS} : ∀ {G : GS}, f_Model_anEvent_L36 G = some r → J X true 12 0 0 M_Model_anEvent (Rz r.1 r.2) NC 0 0 36 [(0, rf X 81)] [] G := by
  intro G h
  unfold f_Model_anEvent_L36 at h
  refine j_aloadn (k := 0) (D_Model_anEvent 19 rfl) rfl rfl ?_
  refine j_iconst (v := 2) (D_Model_anEvent 20 rfl) rfl ?_
  obtain ⟨q1, e1, h⟩ := Option.bind_eq_some_iff.mp h
  refine j_cVz (c_Model_bad (wr_lit rfl) e1) rfl lk_Model_341 mok_Model_bad kd_81 lc_81 rfl (by decide) rfl rfl (Nat.le_of_ble_eq_true rfl) (D_Model_anEvent 21 rfl) (fun w1 bw1 => ?_)
  exact j_zret (D_Model_anEvent 22 rfl) rfl (w1) (nz_01 bw1) rfl rfl (leafZ h (wr_n (w1)) bw1)
def f_Model_anEvent (G : GS) : Option (Int × GS) :=
  if gi G 81 45 = 2 then
    if 16 ≤ gi G 81 47 then
      f_Model_anEvent_L36 G
    else
      gd (0 ≤ gi G 81 47 ∧ gi G 81 47 < 16) <|
      if gi G 130 (gi G 81 47).toNat = (-1) then
        f_Model_anEvent_L36 G
      else
        wG (si G 81 54 (gi G 81 47)) fun G1 =>
        (f_Model_next0 G1).bind fun q1 =>
        some (1, q1)
  else
    (f_Model_bad G 1).bind fun q2 =>
    some (q2.1, q2.2)
theorem c_Model_anEvent {X : XT} {G : GS} {r : Int × GS} (h : f_Model_anEvent G = some r) : Call X true 12 0 0 M_Model_anEvent [rf X 81] NC G (Rz r.1 r.2) := by
  refine Call_of_J cw_Model_anEvent (by decide +kernel) (Nat.le_of_ble_eq_true rfl) ?_
  unfold f_Model_anEvent at h
  show J X true 12 0 0 M_Model_anEvent (Rz r.1 r.2) NC 0 0 0 [(0, rf X 81)] [] G
  refine j_aloadn (k := 0) (D_Model_anEvent 0 rfl) rfl rfl ?_
  refine j_getI rfl fa_Model_314 kd_81 lc_81 (by decide) rfl (D_Model_anEvent 1 rfl) ?_
  refine j_iconst (v := 2) (D_Model_anEvent 2 rfl) rfl ?_
  refine j_ic_eq (tgt := 14) (D_Model_anEvent 3 rfl) rfl (wr_gi _ _ _) (wr_lit rfl) (fun c1 => ?_) (fun c1 => ?_)
  · replace h := ite_t h c1
    refine j_aloadn (k := 0) (D_Model_anEvent 8 rfl) rfl rfl ?_
    refine j_getI rfl fa_Model_332 kd_81 lc_81 (by decide) rfl (D_Model_anEvent 9 rfl) ?_
    refine j_bipush (v := 16) (D_Model_anEvent 10 rfl) rfl ?_
    refine j_ic_ge (tgt := 36) (D_Model_anEvent 11 rfl) rfl (wr_gi _ _ _) (wr_lit rfl) (fun c2 => ?_) (fun c2 => ?_)
    · replace h := ite_t h c2
      refine j_loc [0] rfl ?_
      exact s_Model_anEvent_L36 h
    · replace h := ite_f h c2
      refine j_aloadn (k := 0) (D_Model_anEvent 12 rfl) rfl rfl ?_
      refine j_getR rfl fa_Model_160 kd_81 lc_81 (by decide) rfl fx_81_74 (by decide) (D_Model_anEvent 13 rfl) ?_
      refine j_aloadn (k := 0) (D_Model_anEvent 14 rfl) rfl rfl ?_
      refine j_getI rfl fa_Model_332 kd_81 lc_81 (by decide) rfl (D_Model_anEvent 15 rfl) ?_
      have g1 := gd_c h
      replace h := gd_s h
      refine j_iald (NI := 16) (D_Model_anEvent 16 rfl) kd_130 lc_130 (wr_gi _ _ _) rfl g1.1 g1.2 ?_
      refine j_iconst (v := (-1)) (D_Model_anEvent 17 rfl) rfl ?_
      refine j_ic_ne (tgt := 42) (D_Model_anEvent 18 rfl) rfl (wr_gi _ _ _) (wr_lit rfl) (fun c3 => ?_) (fun c3 => ?_)
      · replace h := ite_f h c3
        refine j_aloadn (k := 0) (D_Model_anEvent 23 rfl) rfl rfl ?_
        refine j_aloadn (k := 0) (D_Model_anEvent 24 rfl) rfl rfl ?_
        refine j_getI rfl fa_Model_332 kd_81 lc_81 (by decide) rfl (D_Model_anEvent 25 rfl) ?_
        refine j_putI rfl fa_Model_347 kd_81 lc_81 (by decide) rfl (D_Model_anEvent 26 rfl) ?_
        refine j_gen (fun G1 e1 => ?_)
        replace h := wG_at h e1
        refine j_aloadn (k := 0) (D_Model_anEvent 27 rfl) rfl rfl ?_
        obtain ⟨q1, e2, h⟩ := Option.bind_eq_some_iff.mp h
        refine j_cVv (c_Model_next0 e2) rfl lk_Model_344 mok_Model_next0 kd_81 lc_81 rfl (by decide) rfl rfl (Nat.le_of_ble_eq_true rfl) (D_Model_anEvent 28 rfl) ?_
        refine j_iconst (v := 1) (D_Model_anEvent 29 rfl) rfl ?_
        exact j_zret (D_Model_anEvent 30 rfl) rfl (wr_lit rfl) (nz_01 (by decide)) rfl rfl (leafZ h (wr_n (wr_lit rfl)) (by decide))
      · replace h := ite_t h c3
        refine j_loc [0] rfl ?_
        exact s_Model_anEvent_L36 h
  · replace h := ite_f h c1
    refine j_aloadn (k := 0) (D_Model_anEvent 4 rfl) rfl rfl ?_
    refine j_iconst (v := 1) (D_Model_anEvent 5 rfl) rfl ?_
    obtain ⟨q2, e3, h⟩ := Option.bind_eq_some_iff.mp h
    refine j_cVz (c_Model_bad (wr_lit rfl) e3) rfl lk_Model_341 mok_Model_bad kd_81 lc_81 rfl (by decide) rfl rfl (Nat.le_of_ble_eq_true rfl) (D_Model_anEvent 6 rfl) (fun w1 bw1 => ?_)
    exact j_zret (D_Model_anEvent 7 rfl) rfl (w1) (nz_01 bw1) rfl rfl (leafZ h (wr_n (w1)) bw1)
abbrev M_Model_aMemory : MI := (⟨"InquestHallModel", "aMemory", "(I)Z"⟩, prog_14_method_88_code, 4, (some .boolean))
theorem cw_Model_aMemory : Cond.code M_Model_aMemory.1 M_Model_aMemory.2.1 M_Model_aMemory.2.2.1 M_Model_aMemory.2.2.2 ∈ TS := mTS (List.mem_of_getElem? (i := 1944) (by decide +kernel)) (by decide +kernel)
theorem lk_Model_537 : Cond.methodLink "InquestHallModel" 537 M_Model_anEvent.1 ∈ TS := mTS (List.mem_of_getElem? (i := 1945) (by decide +kernel)) (by decide +kernel)
theorem mok_Model_anEvent : MOK M_Model_anEvent 0 := ⟨mTS (List.mem_of_getElem? (i := 1947) (by decide +kernel)) (by decide +kernel), mTS (List.mem_of_getElem? (i := 114) (by decide +kernel)) (by decide +kernel), mTS (List.mem_of_getElem? (i := 139) (by decide +kernel)) (by decide +kernel), cw_Model_anEvent, ⟨by decide, by decide, by decide +kernel⟩, by decide +kernel, by decide⟩
def tb_Model_aMemory : List (Nat × Instr × Nat) := [(0, .aload_n 0, 1), (1, .getfield 314, 3), (4, .bipush 21, 2), (6, .if_icmp .eq 26, 3), (9, .aload_n 0, 1), (10, .getfield 314, 3), (13, .bipush 22, 2), (15, .if_icmp .eq 17, 3), (18, .aload_n 0, 1), (19, .getfield 314, 3), (22, .iconst 2, 1), (23, .if_icmp .eq 9, 3), (26, .aload_n 0, 1), (27, .iconst 1, 1), (28, .invokevirtual 341, 3), (31, .ireturn, 1), (32, .iload_n 1, 1), (33, .aload_n 0, 1), (34, .getfield 381, 3), (37, .iadd, 1), (38, .bipush 24, 2), (40, .if_icmp .ne 9, 3), (43, .aload_n 0, 1), (44, .iconst 3, 1), (45, .invokevirtual 341, 3), (48, .ireturn, 1), (49, .aload_n 0, 1), (50, .getfield 381, 3), (53, .istore_n 2, 1), (54, .aload_n 0, 1), (55, .getfield 91, 3), (58, .iload_n 2, 1), (59, .aload_n 0, 1), (60, .getfield 314, 3), (63, .iastore, 1), (64, .aload_n 0, 1), (65, .getfield 94, 3), (68, .iload_n 2, 1), (69, .iconst 0, 1), (70, .iastore, 1), (71, .aload_n 0, 1), (72, .getfield 100, 3), (75, .iload_n 2, 1), (76, .iconst 0, 1), (77, .iastore, 1), (78, .aload_n 0, 1), (79, .getfield 314, 3), (82, .iconst 2, 1), (83, .if_icmp .ne 131, 3), (86, .aload_n 0, 1), (87, .getfield 94, 3), (90, .iload_n 2, 1), (91, .aload_n 0, 1), (92, .getfield 332, 3), (95, .iastore, 1), (96, .aload_n 0, 1), (97, .invokevirtual 344, 3), (100, .aload_n 0, 1), (101, .getfield 314, 3), (104, .bipush 23, 2), (106, .if_icmp .eq 18, 3), (109, .aload_n 0, 1), (110, .getfield 314, 3), (113, .bipush 24, 2), (115, .if_icmp .eq 9, 3), (118, .aload_n 0, 1), (119, .iconst 1, 1), (120, .invokevirtual 341, 3), (123, .ireturn, 1), (124, .aload_n 0, 1), (125, .getfield 314, 3), (128, .bipush 24, 2), (130, .if_icmp .ne 7, 3), (133, .iconst 1, 1), (134, .goto 4, 3), (137, .iconst 0, 1), (138, .istore_n 3, 1), (139, .aload_n 0, 1), (140, .invokevirtual 344, 3), (143, .iload_n 3, 1), (144, .ifCond .eq 15, 3), (147, .aload_n 0, 1), (148, .getfield 314, 3), (151, .bipush 25, 2), (153, .if_icmp .eq 30, 3), (156, .goto 21, 3), (159, .aload_n 0, 1), (160, .getfield 314, 3), (163, .bipush 21, 2), (165, .if_icmp .eq 18, 3), (168, .aload_n 0, 1), (169, .getfield 314, 3), (172, .bipush 22, 2), (174, .if_icmp .eq 9, 3), (177, .aload_n 0, 1), (178, .iconst 1, 1), (179, .invokevirtual 341, 3), (182, .ireturn, 1), (183, .aload_n 0, 1), (184, .getfield 91, 3), (187, .iload_n 2, 1), (188, .iload_n 3, 1), (189, .ifCond .eq 8, 3), (192, .bipush 24, 2), (194, .goto 19, 3), (197, .aload_n 0, 1), (198, .getfield 314, 3), (201, .bipush 21, 2), (203, .if_icmp .ne 8, 3), (206, .bipush 23, 2), (208, .goto 5, 3), (211, .bipush 26, 2), (213, .iastore, 1), (214, .aload_n 0, 1), (215, .invokevirtual 344, 3), (218, .aload_n 0, 1), (219, .invokevirtual 537, 3), (222, .ifCond .ne 5, 3), (225, .iconst 0, 1), (226, .ireturn, 1), (227, .aload_n 0, 1), (228, .getfield 97, 3), (231, .iload_n 2, 1), (232, .aload_n 0, 1), (233, .getfield 347, 3), (236, .iastore, 1), (237, .aload_n 0, 1), (238, .getfield 91, 3), (241, .iload_n 2, 1), (242, .iaload, 1), (243, .bipush 24, 2), (245, .if_icmp .ne 35, 3), (248, .aload_n 0, 1), (249, .bipush 26, 2), (251, .invokevirtual 373, 3), (254, .ifCond .eq 14, 3), (257, .aload_n 0, 1), (258, .iconst 0, 1), (259, .ldc_w 393, 3), (262, .invokevirtual 387, 3), (265, .ifCond .ne 5, 3), (268, .iconst 0, 1), (269, .ireturn, 1), (270, .aload_n 0, 1), (271, .getfield 100, 3), (274, .iload_n 2, 1), (275, .aload_n 0, 1), (276, .getfield 347, 3), (279, .iastore, 1), (280, .aload_n 0, 1), (281, .dup, 1), (282, .getfield 381, 3), (285, .iconst 1, 1), (286, .iadd, 1), (287, .putfield 381, 3), (290, .aload_n 0, 1), (291, .bipush 59, 2), (293, .invokevirtual 373, 3), (296, .ireturn, 1)]
theorem D_Model_aMemory (i : Nat) {pc len : Nat} {ins : Instr} (hi : tb_Model_aMemory[i]? = some (pc, ins, len)) : decode M_Model_aMemory.2.1 pc = .ok (ins, len) := dec_of (by decide +kernel) i hi
def f_Model_aMemory_L280 (G : GS) : Option (Int × GS) :=
  wG (si G 81 41 ((gi G 81 41) + 1)) fun G1 =>
  (f_Model_need G1 59).bind fun q1 =>
  some (q1.1, q1.2)
theorem s_Model_aMemory_L280 {X : XT} {r : Int × GS} : ∀ {G : GS}, f_Model_aMemory_L280 G = some r → J X true 13 0 0 M_Model_aMemory (Rz r.1 r.2) NC 0 0 280 [(0, rf X 81)] [] G := by
  intro G h
  unfold f_Model_aMemory_L280 at h
  refine j_aloadn (k := 0) (D_Model_aMemory 149 rfl) rfl rfl ?_
  refine j_dup (D_Model_aMemory 150 rfl) rfl ?_
  refine j_getI rfl fa_Model_381 kd_81 lc_81 (by decide) rfl (D_Model_aMemory 151 rfl) ?_
  refine j_iconst (v := 1) (D_Model_aMemory 152 rfl) rfl ?_
  refine j_iadd (D_Model_aMemory 153 rfl) ?_
  refine j_putI rfl fa_Model_381 kd_81 lc_81 (by decide) rfl (D_Model_aMemory 154 rfl) ?_
  refine j_gen (fun G1 e1 => ?_)
  replace h := wG_at h e1
  refine j_aloadn (k := 0) (D_Model_aMemory 155 rfl) rfl rfl ?_
  refine j_bipush (v := 59) (D_Model_aMemory 156 rfl) rfl ?_
  obtain ⟨q1, e2, h⟩ := Option.bind_eq_some_iff.mp h
  refine j_cVz (c_Model_need (wr_lit rfl) e2) rfl lk_Model_373 mok_Model_need kd_81 lc_81 rfl (by decide) rfl rfl (Nat.le_of_ble_eq_true rfl) (D_Model_aMemory 157 rfl) (fun w1 bw1 => ?_)
  exact j_zret (D_Model_aMemory 158 rfl) rfl (w1) (nz_01 bw1) rfl rfl (leafZ h (wr_n (w1)) bw1)
def f_Model_aMemory_L214 (G : GS) (x2 : Int) : Option (Int × GS) :=
  (f_Model_next0 G).bind fun q1 =>
  (f_Model_anEvent q1).bind fun q2 =>
  if q2.1 = 0 then
    some (0, q2.2)
  else
    gd (0 ≤ x2 ∧ x2 < 30) <|
    wG (si q2.2 111 x2.toNat (gi q2.2 81 54)) fun G1 =>
    gd (0 ≤ x2 ∧ x2 < 30) <|
    if gi G1 109 x2.toNat = 24 then
      (f_Model_need G1 26).bind fun q3 =>
      if q3.1 = 0 then
        some (0, q3.2)
      else
        (f_Model_aNumber q3.2 0 99999).bind fun q4 =>
        if q4.1 = 0 then
          some (0, q4.2)
        else
          gd (0 ≤ x2 ∧ x2 < 30) <|
          wG (si q4.2 112 x2.toNat (gi q4.2 81 54)) fun G2 =>
          f_Model_aMemory_L280 G2
    else
      f_Model_aMemory_L280 G1
theorem s_Model_aMemory_L214 {X : XT} {r : Int × GS} : ∀ {G : GS} {x2 : Int}, wr x2 = x2 → f_Model_aMemory_L214 G x2 = some r → J X true 13 0 0 M_Model_aMemory (Rz r.1 r.2) NC 0 0 214 [(0, rf X 81), (2, vi x2)] [] G := by
  intro G x2 hx2 h
  unfold f_Model_aMemory_L214 at h
  refine j_aloadn (k := 0) (D_Model_aMemory 113 rfl) rfl rfl ?_
  obtain ⟨q1, e1, h⟩ := Option.bind_eq_some_iff.mp h
  refine j_cVv (c_Model_next0 e1) rfl lk_Model_344 mok_Model_next0 kd_81 lc_81 rfl (by decide) rfl rfl (Nat.le_of_ble_eq_true rfl) (D_Model_aMemory 114 rfl) ?_
  refine j_aloadn (k := 0) (D_Model_aMemory 115 rfl) rfl rfl ?_
  obtain ⟨q2, e2, h⟩ := Option.bind_eq_some_iff.mp h
  refine j_cVz (c_Model_anEvent e2) rfl lk_Model_537 mok_Model_anEvent kd_81 lc_81 rfl (by decide) rfl rfl (Nat.le_of_ble_eq_true rfl) (D_Model_aMemory 116 rfl) (fun w1 bw1 => ?_)
  refine j_if_ne (tgt := 227) (D_Model_aMemory 117 rfl) rfl (w1) (fun c1 => ?_) (fun c1 => ?_)
  · replace h := ite_f h c1
    refine j_aloadn (k := 0) (D_Model_aMemory 120 rfl) rfl rfl ?_
    refine j_getR rfl fa_Model_97 kd_81 lc_81 (by decide) rfl fx_81_33 (by decide) (D_Model_aMemory 121 rfl) ?_
    refine j_iloadn (k := 1) (D_Model_aMemory 122 rfl) rfl rfl ?_
    refine j_aloadn (k := 0) (D_Model_aMemory 123 rfl) rfl rfl ?_
    refine j_getI rfl fa_Model_347 kd_81 lc_81 (by decide) rfl (D_Model_aMemory 124 rfl) ?_
    have g1 := gd_c h
    replace h := gd_s h
    refine j_iast (NI := 30) (D_Model_aMemory 125 rfl) kd_111 lc_111 (hx2) rfl g1.1 g1.2 ?_
    refine j_gen (fun G1 e3 => ?_)
    replace h := wG_at h e3
    refine j_aloadn (k := 0) (D_Model_aMemory 126 rfl) rfl rfl ?_
    refine j_getR rfl fa_Model_91 kd_81 lc_81 (by decide) rfl fx_81_31 (by decide) (D_Model_aMemory 127 rfl) ?_
    refine j_iloadn (k := 1) (D_Model_aMemory 128 rfl) rfl rfl ?_
    have g2 := gd_c h
    replace h := gd_s h
    refine j_iald (NI := 30) (D_Model_aMemory 129 rfl) kd_109 lc_109 (hx2) rfl g2.1 g2.2 ?_
    refine j_bipush (v := 24) (D_Model_aMemory 130 rfl) rfl ?_
    refine j_ic_ne (tgt := 280) (D_Model_aMemory 131 rfl) rfl (wr_gi _ _ _) (wr_lit rfl) (fun c2 => ?_) (fun c2 => ?_)
    · replace h := ite_f h c2
      refine j_loc [0] rfl ?_
      exact s_Model_aMemory_L280 h
    · replace h := ite_t h c2
      refine j_aloadn (k := 0) (D_Model_aMemory 132 rfl) rfl rfl ?_
      refine j_bipush (v := 26) (D_Model_aMemory 133 rfl) rfl ?_
      obtain ⟨q3, e4, h⟩ := Option.bind_eq_some_iff.mp h
      refine j_cVz (c_Model_need (wr_lit rfl) e4) rfl lk_Model_373 mok_Model_need kd_81 lc_81 rfl (by decide) rfl rfl (Nat.le_of_ble_eq_true rfl) (D_Model_aMemory 134 rfl) (fun w2 bw2 => ?_)
      refine j_if_eq (tgt := 268) (D_Model_aMemory 135 rfl) rfl (w2) (fun c3 => ?_) (fun c3 => ?_)
      · replace h := ite_t h c3
        refine j_iconst (v := 0) (D_Model_aMemory 141 rfl) rfl ?_
        exact j_zret (D_Model_aMemory 142 rfl) rfl (wr_lit rfl) (nz_01 (by decide)) rfl rfl (leafZ h (wr_n (wr_lit rfl)) (by decide))
      · replace h := ite_f h c3
        refine j_aloadn (k := 0) (D_Model_aMemory 136 rfl) rfl rfl ?_
        refine j_iconst (v := 0) (D_Model_aMemory 137 rfl) rfl ?_
        refine j_ldcw (v := 99999) rfl ct_Model_393 (by decide) (D_Model_aMemory 138 rfl) ?_
        obtain ⟨q4, e5, h⟩ := Option.bind_eq_some_iff.mp h
        refine j_cVz (c_Model_aNumber (wr_lit rfl) (wr_lit rfl) e5) rfl lk_Model_387 mok_Model_aNumber kd_81 lc_81 rfl (by decide) rfl rfl (Nat.le_of_ble_eq_true rfl) (D_Model_aMemory 139 rfl) (fun w3 bw3 => ?_)
        refine j_if_ne (tgt := 270) (D_Model_aMemory 140 rfl) rfl (w3) (fun c4 => ?_) (fun c4 => ?_)
        · replace h := ite_f h c4
          refine j_aloadn (k := 0) (D_Model_aMemory 143 rfl) rfl rfl ?_
          refine j_getR rfl fa_Model_100 kd_81 lc_81 (by decide) rfl fx_81_34 (by decide) (D_Model_aMemory 144 rfl) ?_
          refine j_iloadn (k := 1) (D_Model_aMemory 145 rfl) rfl rfl ?_
          refine j_aloadn (k := 0) (D_Model_aMemory 146 rfl) rfl rfl ?_
          refine j_getI rfl fa_Model_347 kd_81 lc_81 (by decide) rfl (D_Model_aMemory 147 rfl) ?_
          have g3 := gd_c h
          replace h := gd_s h
          refine j_iast (NI := 30) (D_Model_aMemory 148 rfl) kd_112 lc_112 (hx2) rfl g3.1 g3.2 ?_
          refine j_gen (fun G2 e6 => ?_)
          replace h := wG_at h e6
          refine j_loc [0] rfl ?_
          exact s_Model_aMemory_L280 h
        · replace h := ite_t h c4
          refine j_iconst (v := 0) (D_Model_aMemory 141 rfl) rfl ?_
          exact j_zret (D_Model_aMemory 142 rfl) rfl (wr_lit rfl) (nz_01 (by decide)) rfl rfl (leafZ h (wr_n (wr_lit rfl)) (by decide))
  · replace h := ite_t h c1
    refine j_iconst (v := 0) (D_Model_aMemory 118 rfl) rfl ?_
    exact j_zret (D_Model_aMemory 119 rfl) rfl (wr_lit rfl) (nz_01 (by decide)) rfl rfl (leafZ h (wr_n (wr_lit rfl)) (by decide))
def f_Model_aMemory_L213 (G : GS) (x2 : Int) (s0 : Int) (s1 : Int) : Option (Int × GS) :=
  gd (0 ≤ s1 ∧ s1 < 30) <|
  wG (si G 109 s1.toNat s0) fun G1 =>
  f_Model_aMemory_L214 G1 x2
theorem s_Model_aMemory_L213 {X : XT} {r : Int × GS} : ∀ {G : GS} {x2 : Int} {s0 : Int} {s1 : Int}, wr x2 = x2 → wr s0 = s0 → wr s1 = s1 → f_Model_aMemory_L213 G x2 s0 s1 = some r → J X true 13 0 0 M_Model_aMemory (Rz r.1 r.2) NC 0 0 213 [(0, rf X 81), (2, vi x2)] [vi s0, vi s1, rf X 109] G := by
  intro G x2 s0 s1 hx2 hs0 hs1 h
  unfold f_Model_aMemory_L213 at h
  have g1 := gd_c h
  replace h := gd_s h
  refine j_iast (NI := 30) (D_Model_aMemory 112 rfl) kd_109 lc_109 (hs1) rfl g1.1 g1.2 ?_
  refine j_gen (fun G1 e1 => ?_)
  replace h := wG_at h e1
  refine j_loc [0, 1] rfl ?_
  exact s_Model_aMemory_L214 (hx2) h
def f_Model_aMemory_L183 (G : GS) (x2 : Int) (x3 : Int) : Option (Int × GS) :=
  if x3 = 0 then
    if gi G 81 45 = 21 then
      f_Model_aMemory_L213 G x2 23 x2
    else
      f_Model_aMemory_L213 G x2 26 x2
  else
    f_Model_aMemory_L213 G x2 24 x2
theorem s_Model_aMemory_L183 {X : XT} {r : Int × GS} : ∀ {G : GS} {x2 : Int} {x3 : Int}, wr x2 = x2 → wr x3 = x3 → f_Model_aMemory_L183 G x2 x3 = some r → J X true 13 0 0 M_Model_aMemory (Rz r.1 r.2) NC 0 0 183 [(0, rf X 81), (2, vi x2), (3, vi x3)] [] G := by
  intro G x2 x3 hx2 hx3 h
  unfold f_Model_aMemory_L183 at h
  refine j_aloadn (k := 0) (D_Model_aMemory 98 rfl) rfl rfl ?_
  refine j_getR rfl fa_Model_91 kd_81 lc_81 (by decide) rfl fx_81_31 (by decide) (D_Model_aMemory 99 rfl) ?_
  refine j_iloadn (k := 1) (D_Model_aMemory 100 rfl) rfl rfl ?_
  refine j_iloadn (k := 2) (D_Model_aMemory 101 rfl) rfl rfl ?_
  refine j_if_eq (tgt := 197) (D_Model_aMemory 102 rfl) rfl (hx3) (fun c1 => ?_) (fun c1 => ?_)
  · replace h := ite_t h c1
    refine j_aloadn (k := 0) (D_Model_aMemory 105 rfl) rfl rfl ?_
    refine j_getI rfl fa_Model_314 kd_81 lc_81 (by decide) rfl (D_Model_aMemory 106 rfl) ?_
    refine j_bipush (v := 21) (D_Model_aMemory 107 rfl) rfl ?_
    refine j_ic_ne (tgt := 211) (D_Model_aMemory 108 rfl) rfl (wr_gi _ _ _) (wr_lit rfl) (fun c2 => ?_) (fun c2 => ?_)
    · replace h := ite_f h c2
      refine j_bipush (v := 26) (D_Model_aMemory 111 rfl) rfl ?_
      refine j_loc [0, 1] rfl ?_
      exact s_Model_aMemory_L213 (hx2) (wr_lit rfl) (hx2) h
    · replace h := ite_t h c2
      refine j_bipush (v := 23) (D_Model_aMemory 109 rfl) rfl ?_
      refine j_goto (tgt := 213) (D_Model_aMemory 110 rfl) rfl ?_
      refine j_loc [0, 1] rfl ?_
      exact s_Model_aMemory_L213 (hx2) (wr_lit rfl) (hx2) h
  · replace h := ite_f h c1
    refine j_bipush (v := 24) (D_Model_aMemory 103 rfl) rfl ?_
    refine j_goto (tgt := 213) (D_Model_aMemory 104 rfl) rfl ?_
    refine j_loc [0, 1] rfl ?_
    exact s_Model_aMemory_L213 (hx2) (wr_lit rfl) (hx2) h
def f_Model_aMemory_L177 (G : GS) : Option (Int × GS) :=
  (f_Model_bad G 1).bind fun q1 =>
  some (q1.1, q1.2)
theorem s_Model_aMemory_L177 {X : XT} {r : Int × GS} : ∀ {G : GS}, f_Model_aMemory_L177 G = some r → J X true 13 0 0 M_Model_aMemory (Rz r.1 r.2) NC 0 0 177 [(0, rf X 81)] [] G := by
  intro G h
  unfold f_Model_aMemory_L177 at h
  refine j_aloadn (k := 0) (D_Model_aMemory 94 rfl) rfl rfl ?_
  refine j_iconst (v := 1) (D_Model_aMemory 95 rfl) rfl ?_
  obtain ⟨q1, e1, h⟩ := Option.bind_eq_some_iff.mp h
  refine j_cVz (c_Model_bad (wr_lit rfl) e1) rfl lk_Model_341 mok_Model_bad kd_81 lc_81 rfl (by decide) rfl rfl (Nat.le_of_ble_eq_true rfl) (D_Model_aMemory 96 rfl) (fun w1 bw1 => ?_)
  exact j_zret (D_Model_aMemory 97 rfl) rfl (w1) (nz_01 bw1) rfl rfl (leafZ h (wr_n (w1)) bw1)
def f_Model_aMemory_L138 (G : GS) (x2 : Int) (s0 : Int) : Option (Int × GS) :=
  (f_Model_next0 G).bind fun q1 =>
  if s0 = 0 then
    if gi q1 81 45 = 21 then
      f_Model_aMemory_L183 q1 x2 s0
    else
      if gi q1 81 45 = 22 then
        f_Model_aMemory_L183 q1 x2 s0
      else
        f_Model_aMemory_L177 q1
  else
    if gi q1 81 45 = 25 then
      f_Model_aMemory_L183 q1 x2 s0
    else
      f_Model_aMemory_L177 q1
theorem s_Model_aMemory_L138 {X : XT} {r : Int × GS} : ∀ {G : GS} {x2 : Int} {s0 : Int}, wr x2 = x2 → wr s0 = s0 → f_Model_aMemory_L138 G x2 s0 = some r → J X true 13 0 0 M_Model_aMemory (Rz r.1 r.2) NC 0 0 138 [(0, rf X 81), (2, vi x2)] [vi s0] G := by
  intro G x2 s0 hx2 hs0 h
  unfold f_Model_aMemory_L138 at h
  refine j_istoren (L' := [(3, vi s0), (0, rf X 81), (2, vi x2)]) (D_Model_aMemory 76 rfl) rfl (hs0) (by decide) rfl ?_
  refine j_aloadn (k := 1) (D_Model_aMemory 77 rfl) rfl rfl ?_
  obtain ⟨q1, e1, h⟩ := Option.bind_eq_some_iff.mp h
  refine j_cVv (c_Model_next0 e1) rfl lk_Model_344 mok_Model_next0 kd_81 lc_81 rfl (by decide) rfl rfl (Nat.le_of_ble_eq_true rfl) (D_Model_aMemory 78 rfl) ?_
  refine j_iloadn (k := 0) (D_Model_aMemory 79 rfl) rfl rfl ?_
  refine j_if_eq (tgt := 159) (D_Model_aMemory 80 rfl) rfl (hs0) (fun c1 => ?_) (fun c1 => ?_)
  · replace h := ite_t h c1
    refine j_aloadn (k := 1) (D_Model_aMemory 86 rfl) rfl rfl ?_
    refine j_getI rfl fa_Model_314 kd_81 lc_81 (by decide) rfl (D_Model_aMemory 87 rfl) ?_
    refine j_bipush (v := 21) (D_Model_aMemory 88 rfl) rfl ?_
    refine j_ic_eq (tgt := 183) (D_Model_aMemory 89 rfl) rfl (wr_gi _ _ _) (wr_lit rfl) (fun c2 => ?_) (fun c2 => ?_)
    · replace h := ite_t h c2
      refine j_loc [1, 2, 0] rfl ?_
      exact s_Model_aMemory_L183 (hx2) (hs0) h
    · replace h := ite_f h c2
      refine j_aloadn (k := 1) (D_Model_aMemory 90 rfl) rfl rfl ?_
      refine j_getI rfl fa_Model_314 kd_81 lc_81 (by decide) rfl (D_Model_aMemory 91 rfl) ?_
      refine j_bipush (v := 22) (D_Model_aMemory 92 rfl) rfl ?_
      refine j_ic_eq (tgt := 183) (D_Model_aMemory 93 rfl) rfl (wr_gi _ _ _) (wr_lit rfl) (fun c3 => ?_) (fun c3 => ?_)
      · replace h := ite_t h c3
        refine j_loc [1, 2, 0] rfl ?_
        exact s_Model_aMemory_L183 (hx2) (hs0) h
      · replace h := ite_f h c3
        refine j_loc [1] rfl ?_
        exact s_Model_aMemory_L177 h
  · replace h := ite_f h c1
    refine j_aloadn (k := 1) (D_Model_aMemory 81 rfl) rfl rfl ?_
    refine j_getI rfl fa_Model_314 kd_81 lc_81 (by decide) rfl (D_Model_aMemory 82 rfl) ?_
    refine j_bipush (v := 25) (D_Model_aMemory 83 rfl) rfl ?_
    refine j_ic_eq (tgt := 183) (D_Model_aMemory 84 rfl) rfl (wr_gi _ _ _) (wr_lit rfl) (fun c4 => ?_) (fun c4 => ?_)
    · replace h := ite_t h c4
      refine j_loc [1, 2, 0] rfl ?_
      exact s_Model_aMemory_L183 (hx2) (hs0) h
    · replace h := ite_f h c4
      refine j_goto (tgt := 177) (D_Model_aMemory 85 rfl) rfl ?_
      refine j_loc [1] rfl ?_
      exact s_Model_aMemory_L177 h
def f_Model_aMemory_L124 (G : GS) (x2 : Int) : Option (Int × GS) :=
  if gi G 81 45 = 24 then
    f_Model_aMemory_L138 G x2 1
  else
    f_Model_aMemory_L138 G x2 0
theorem s_Model_aMemory_L124 {X : XT} {r : Int × GS} : ∀ {G : GS} {x2 : Int}, wr x2 = x2 → f_Model_aMemory_L124 G x2 = some r → J X true 13 0 0 M_Model_aMemory (Rz r.1 r.2) NC 0 0 124 [(0, rf X 81), (2, vi x2)] [] G := by
  intro G x2 hx2 h
  unfold f_Model_aMemory_L124 at h
  refine j_aloadn (k := 0) (D_Model_aMemory 69 rfl) rfl rfl ?_
  refine j_getI rfl fa_Model_314 kd_81 lc_81 (by decide) rfl (D_Model_aMemory 70 rfl) ?_
  refine j_bipush (v := 24) (D_Model_aMemory 71 rfl) rfl ?_
  refine j_ic_ne (tgt := 137) (D_Model_aMemory 72 rfl) rfl (wr_gi _ _ _) (wr_lit rfl) (fun c1 => ?_) (fun c1 => ?_)
  · replace h := ite_f h c1
    refine j_iconst (v := 0) (D_Model_aMemory 75 rfl) rfl ?_
    refine j_loc [0, 1] rfl ?_
    exact s_Model_aMemory_L138 (hx2) (wr_lit rfl) h
  · replace h := ite_t h c1
    refine j_iconst (v := 1) (D_Model_aMemory 73 rfl) rfl ?_
    refine j_goto (tgt := 138) (D_Model_aMemory 74 rfl) rfl ?_
    refine j_loc [0, 1] rfl ?_
    exact s_Model_aMemory_L138 (hx2) (wr_lit rfl) h
def f_Model_aMemory_L32 (G : GS) (x1 : Int) : Option (Int × GS) :=
  if wr (x1 + (gi G 81 41)) = 24 then
    (f_Model_bad G 3).bind fun q3 =>
    some (q3.1, q3.2)
  else
    gd (0 ≤ gi G 81 41 ∧ gi G 81 41 < 30) <|
    wG (si G 109 (gi G 81 41).toNat (gi G 81 45)) fun G1 =>
    gd (0 ≤ gi G 81 41 ∧ gi G 81 41 < 30) <|
    wG (si G1 110 (gi G 81 41).toNat 0) fun G2 =>
    gd (0 ≤ gi G 81 41 ∧ gi G 81 41 < 30) <|
    wG (si G2 112 (gi G 81 41).toNat 0) fun G3 =>
    if gi G3 81 45 = 2 then
      gd (0 ≤ gi G 81 41 ∧ gi G 81 41 < 30) <|
      wG (si G3 110 (gi G 81 41).toNat (gi G3 81 47)) fun G4 =>
      (f_Model_next0 G4).bind fun q1 =>
      if gi q1 81 45 = 23 then
        f_Model_aMemory_L124 q1 (gi G 81 41)
      else
        if gi q1 81 45 = 24 then
          f_Model_aMemory_L124 q1 (gi G 81 41)
        else
          (f_Model_bad q1 1).bind fun q2 =>
          some (q2.1, q2.2)
    else
      f_Model_aMemory_L214 G3 (gi G 81 41)
theorem s_Model_aMemory_L32 {X : XT} {r : Int × GS} : ∀ {G : GS} {x1 : Int}, wr x1 = x1 → f_Model_aMemory_L32 G x1 = some r → J X true 13 0 0 M_Model_aMemory (Rz r.1 r.2) NC 0 0 32 [(0, rf X 81), (1, vi x1)] [] G := by
  intro G x1 hx1 h
  unfold f_Model_aMemory_L32 at h
  refine j_iloadn (k := 1) (D_Model_aMemory 16 rfl) rfl rfl ?_
  refine j_aloadn (k := 0) (D_Model_aMemory 17 rfl) rfl rfl ?_
  refine j_getI rfl fa_Model_381 kd_81 lc_81 (by decide) rfl (D_Model_aMemory 18 rfl) ?_
  refine j_iadd (D_Model_aMemory 19 rfl) ?_
  refine j_bipush (v := 24) (D_Model_aMemory 20 rfl) rfl ?_
  refine j_ic_ne (tgt := 49) (D_Model_aMemory 21 rfl) rfl (rfl) (wr_lit rfl) (fun c1 => ?_) (fun c1 => ?_)
  · replace h := ite_f h c1
    refine j_aloadn (k := 0) (D_Model_aMemory 26 rfl) rfl rfl ?_
    refine j_getI rfl fa_Model_381 kd_81 lc_81 (by decide) rfl (D_Model_aMemory 27 rfl) ?_
    refine j_istoren (L' := [(2, vi (gi G 81 41)), (0, rf X 81), (1, vi x1)]) (D_Model_aMemory 28 rfl) rfl (wr_gi _ _ _) (by decide) rfl ?_
    refine j_aloadn (k := 1) (D_Model_aMemory 29 rfl) rfl rfl ?_
    refine j_getR rfl fa_Model_91 kd_81 lc_81 (by decide) rfl fx_81_31 (by decide) (D_Model_aMemory 30 rfl) ?_
    refine j_iloadn (k := 0) (D_Model_aMemory 31 rfl) rfl rfl ?_
    refine j_aloadn (k := 1) (D_Model_aMemory 32 rfl) rfl rfl ?_
    refine j_getI rfl fa_Model_314 kd_81 lc_81 (by decide) rfl (D_Model_aMemory 33 rfl) ?_
    have g1 := gd_c h
    replace h := gd_s h
    refine j_iast (NI := 30) (D_Model_aMemory 34 rfl) kd_109 lc_109 (wr_gi _ _ _) rfl g1.1 g1.2 ?_
    refine j_gen (fun G1 e1 => ?_)
    replace h := wG_at h e1
    refine j_aloadn (k := 1) (D_Model_aMemory 35 rfl) rfl rfl ?_
    refine j_getR rfl fa_Model_94 kd_81 lc_81 (by decide) rfl fx_81_32 (by decide) (D_Model_aMemory 36 rfl) ?_
    refine j_iloadn (k := 0) (D_Model_aMemory 37 rfl) rfl rfl ?_
    refine j_iconst (v := 0) (D_Model_aMemory 38 rfl) rfl ?_
    have g2 := gd_c h
    replace h := gd_s h
    refine j_iast (NI := 30) (D_Model_aMemory 39 rfl) kd_110 lc_110 (wr_gi _ _ _) rfl g2.1 g2.2 ?_
    refine j_gen (fun G2 e2 => ?_)
    replace h := wG_at h e2
    refine j_aloadn (k := 1) (D_Model_aMemory 40 rfl) rfl rfl ?_
    refine j_getR rfl fa_Model_100 kd_81 lc_81 (by decide) rfl fx_81_34 (by decide) (D_Model_aMemory 41 rfl) ?_
    refine j_iloadn (k := 0) (D_Model_aMemory 42 rfl) rfl rfl ?_
    refine j_iconst (v := 0) (D_Model_aMemory 43 rfl) rfl ?_
    have g3 := gd_c h
    replace h := gd_s h
    refine j_iast (NI := 30) (D_Model_aMemory 44 rfl) kd_112 lc_112 (wr_gi _ _ _) rfl g3.1 g3.2 ?_
    refine j_gen (fun G3 e3 => ?_)
    replace h := wG_at h e3
    refine j_aloadn (k := 1) (D_Model_aMemory 45 rfl) rfl rfl ?_
    refine j_getI rfl fa_Model_314 kd_81 lc_81 (by decide) rfl (D_Model_aMemory 46 rfl) ?_
    refine j_iconst (v := 2) (D_Model_aMemory 47 rfl) rfl ?_
    refine j_ic_ne (tgt := 214) (D_Model_aMemory 48 rfl) rfl (wr_gi _ _ _) (wr_lit rfl) (fun c2 => ?_) (fun c2 => ?_)
    · replace h := ite_f h c2
      refine j_loc [1, 0] rfl ?_
      exact s_Model_aMemory_L214 (wr_gi _ _ _) h
    · replace h := ite_t h c2
      refine j_aloadn (k := 1) (D_Model_aMemory 49 rfl) rfl rfl ?_
      refine j_getR rfl fa_Model_94 kd_81 lc_81 (by decide) rfl fx_81_32 (by decide) (D_Model_aMemory 50 rfl) ?_
      refine j_iloadn (k := 0) (D_Model_aMemory 51 rfl) rfl rfl ?_
      refine j_aloadn (k := 1) (D_Model_aMemory 52 rfl) rfl rfl ?_
      refine j_getI rfl fa_Model_332 kd_81 lc_81 (by decide) rfl (D_Model_aMemory 53 rfl) ?_
      have g4 := gd_c h
      replace h := gd_s h
      refine j_iast (NI := 30) (D_Model_aMemory 54 rfl) kd_110 lc_110 (wr_gi _ _ _) rfl g4.1 g4.2 ?_
      refine j_gen (fun G4 e4 => ?_)
      replace h := wG_at h e4
      refine j_aloadn (k := 1) (D_Model_aMemory 55 rfl) rfl rfl ?_
      obtain ⟨q1, e5, h⟩ := Option.bind_eq_some_iff.mp h
      refine j_cVv (c_Model_next0 e5) rfl lk_Model_344 mok_Model_next0 kd_81 lc_81 rfl (by decide) rfl rfl (Nat.le_of_ble_eq_true rfl) (D_Model_aMemory 56 rfl) ?_
      refine j_aloadn (k := 1) (D_Model_aMemory 57 rfl) rfl rfl ?_
      refine j_getI rfl fa_Model_314 kd_81 lc_81 (by decide) rfl (D_Model_aMemory 58 rfl) ?_
      refine j_bipush (v := 23) (D_Model_aMemory 59 rfl) rfl ?_
      refine j_ic_eq (tgt := 124) (D_Model_aMemory 60 rfl) rfl (wr_gi _ _ _) (wr_lit rfl) (fun c3 => ?_) (fun c3 => ?_)
      · replace h := ite_t h c3
        refine j_loc [1, 0] rfl ?_
        exact s_Model_aMemory_L124 (wr_gi _ _ _) h
      · replace h := ite_f h c3
        refine j_aloadn (k := 1) (D_Model_aMemory 61 rfl) rfl rfl ?_
        refine j_getI rfl fa_Model_314 kd_81 lc_81 (by decide) rfl (D_Model_aMemory 62 rfl) ?_
        refine j_bipush (v := 24) (D_Model_aMemory 63 rfl) rfl ?_
        refine j_ic_eq (tgt := 124) (D_Model_aMemory 64 rfl) rfl (wr_gi _ _ _) (wr_lit rfl) (fun c4 => ?_) (fun c4 => ?_)
        · replace h := ite_t h c4
          refine j_loc [1, 0] rfl ?_
          exact s_Model_aMemory_L124 (wr_gi _ _ _) h
        · replace h := ite_f h c4
          refine j_aloadn (k := 1) (D_Model_aMemory 65 rfl) rfl rfl ?_
          refine j_iconst (v := 1) (D_Model_aMemory 66 rfl) rfl ?_
          obtain ⟨q2, e6, h⟩ := Option.bind_eq_some_iff.mp h
          refine j_cVz (c_Model_bad (wr_lit rfl) e6) rfl lk_Model_341 mok_Model_bad kd_81 lc_81 rfl (by decide) rfl rfl (Nat.le_of_ble_eq_true rfl) (D_Model_aMemory 67 rfl) (fun w1 bw1 => ?_)
          exact j_zret (D_Model_aMemory 68 rfl) rfl (w1) (nz_01 bw1) rfl rfl (leafZ h (wr_n (w1)) bw1)
  · replace h := ite_t h c1
    refine j_aloadn (k := 0) (D_Model_aMemory 22 rfl) rfl rfl ?_
    refine j_iconst (v := 3) (D_Model_aMemory 23 rfl) rfl ?_
    obtain ⟨q3, e7, h⟩ := Option.bind_eq_some_iff.mp h
    refine j_cVz (c_Model_bad (wr_lit rfl) e7) rfl lk_Model_341 mok_Model_bad kd_81 lc_81 rfl (by decide) rfl rfl (Nat.le_of_ble_eq_true rfl) (D_Model_aMemory 24 rfl) (fun w2 bw2 => ?_)
    exact j_zret (D_Model_aMemory 25 rfl) rfl (w2) (nz_01 bw2) rfl rfl (leafZ h (wr_n (w2)) bw2)
def f_Model_aMemory (G : GS) (a1 : Int) : Option (Int × GS) :=
  if gi G 81 45 = 21 then
    f_Model_aMemory_L32 G a1
  else
    if gi G 81 45 = 22 then
      f_Model_aMemory_L32 G a1
    else
      if gi G 81 45 = 2 then
        f_Model_aMemory_L32 G a1
      else
        (f_Model_bad G 1).bind fun q1 =>
        some (q1.1, q1.2)
theorem c_Model_aMemory {X : XT} {G : GS} {a1 : Int} {r : Int × GS} (ha1 : wr a1 = a1) (h : f_Model_aMemory G a1 = some r) : Call X true 13 0 0 M_Model_aMemory [rf X 81, vi a1] NC G (Rz r.1 r.2) := by
  refine Call_of_J cw_Model_aMemory (by decide +kernel) (Nat.le_of_ble_eq_true rfl) ?_
  unfold f_Model_aMemory at h
  show J X true 13 0 0 M_Model_aMemory (Rz r.1 r.2) NC 0 0 0 [(0, rf X 81), (1, vi a1)] [] G
  refine j_aloadn (k := 0) (D_Model_aMemory 0 rfl) rfl rfl ?_
  refine j_getI rfl fa_Model_314 kd_81 lc_81 (by decide) rfl (D_Model_aMemory 1 rfl) ?_
  refine j_bipush (v := 21) (D_Model_aMemory 2 rfl) rfl ?_
  refine j_ic_eq (tgt := 32) (D_Model_aMemory 3 rfl) rfl (wr_gi _ _ _) (wr_lit rfl) (fun c1 => ?_) (fun c1 => ?_)
  · replace h := ite_t h c1
    refine j_loc [0, 1] rfl ?_
    exact s_Model_aMemory_L32 (ha1) h
  · replace h := ite_f h c1
    refine j_aloadn (k := 0) (D_Model_aMemory 4 rfl) rfl rfl ?_
    refine j_getI rfl fa_Model_314 kd_81 lc_81 (by decide) rfl (D_Model_aMemory 5 rfl) ?_
    refine j_bipush (v := 22) (D_Model_aMemory 6 rfl) rfl ?_
    refine j_ic_eq (tgt := 32) (D_Model_aMemory 7 rfl) rfl (wr_gi _ _ _) (wr_lit rfl) (fun c2 => ?_) (fun c2 => ?_)
    · replace h := ite_t h c2
      refine j_loc [0, 1] rfl ?_
      exact s_Model_aMemory_L32 (ha1) h
    · replace h := ite_f h c2
      refine j_aloadn (k := 0) (D_Model_aMemory 8 rfl) rfl rfl ?_
      refine j_getI rfl fa_Model_314 kd_81 lc_81 (by decide) rfl (D_Model_aMemory 9 rfl) ?_
      refine j_iconst (v := 2) (D_Model_aMemory 10 rfl) rfl ?_
      refine j_ic_eq (tgt := 32) (D_Model_aMemory 11 rfl) rfl (wr_gi _ _ _) (wr_lit rfl) (fun c3 => ?_) (fun c3 => ?_)
      · replace h := ite_t h c3
        refine j_loc [0, 1] rfl ?_
        exact s_Model_aMemory_L32 (ha1) h
      · replace h := ite_f h c3
        refine j_aloadn (k := 0) (D_Model_aMemory 12 rfl) rfl rfl ?_
        refine j_iconst (v := 1) (D_Model_aMemory 13 rfl) rfl ?_
        obtain ⟨q1, e1, h⟩ := Option.bind_eq_some_iff.mp h
        refine j_cVz (c_Model_bad (wr_lit rfl) e1) rfl lk_Model_341 mok_Model_bad kd_81 lc_81 rfl (by decide) rfl rfl (Nat.le_of_ble_eq_true rfl) (D_Model_aMemory 14 rfl) (fun w1 bw1 => ?_)
        exact j_zret (D_Model_aMemory 15 rfl) rfl (w1) (nz_01 bw1) rfl rfl (leafZ h (wr_n (w1)) bw1)
