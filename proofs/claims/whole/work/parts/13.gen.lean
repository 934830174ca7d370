/-! printed by wip/whole/gen.py out of the listing of the bytecode -/
abbrev M_Text_takeOneOf : MI := (⟨"InquestHall$Text", "takeOneOf", "(II)I"⟩, prog_12_method_20_code, 4, (some .int))
theorem cw_Text_takeOneOf : Cond.code M_Text_takeOneOf.1 M_Text_takeOneOf.2.1 M_Text_takeOneOf.2.2.1 M_Text_takeOneOf.2.2.2 ∈ TS := mTS (List.mem_of_getElem? (i := 821) (by decide +kernel)) (by decide +kernel)
theorem lk_Text_103 : Cond.methodLink "InquestHall$Text" 103 M_Text_take.1 ∈ TS := mTS (List.mem_of_getElem? (i := 822) (by decide +kernel)) (by decide +kernel)
theorem mok_Text_take : MOK M_Text_take 1 := ⟨mTS (List.mem_of_getElem? (i := 801) (by decide +kernel)) (by decide +kernel), mTS (List.mem_of_getElem? (i := 802) (by decide +kernel)) (by decide +kernel), mTS (List.mem_of_getElem? (i := 125) (by decide +kernel)) (by decide +kernel), cw_Text_take, ⟨by decide, by decide, by decide +kernel⟩, by decide +kernel, by decide⟩
def tb_Text_takeOneOf : List (Nat × Instr × Nat) := [(0, .aload_n 0, 1), (1, .invokevirtual 94, 3), (4, .iload_n 1, 1), (5, .isub, 1), (6, .istore_n 3, 1), (7, .iload_n 3, 1), (8, .ifCond .lt 8, 3), (11, .iload_n 3, 1), (12, .iload_n 2, 1), (13, .if_icmp .lt 10, 3), (16, .aload_n 0, 1), (17, .iconst 1, 1), (18, .invokevirtual 90, 3), (21, .iconst 0, 1), (22, .ireturn, 1), (23, .aload_n 0, 1), (24, .iload_n 1, 1), (25, .iload_n 3, 1), (26, .iadd, 1), (27, .invokevirtual 103, 3), (30, .iload_n 3, 1), (31, .ireturn, 1)]
theorem D_Text_takeOneOf (i : Nat) {pc len : Nat} {ins : Instr} (hi : tb_Text_takeOneOf[i]? = some (pc, ins, len)) : decode M_Text_takeOneOf.2.1 pc = .ok (ins, len) := dec_of (by decide +kernel) i hi
def f_Text_takeOneOf_L16 (G : GS) : Option (Int × GS) :=
  (f_Text_fail G 1).bind fun q1 =>
  some (0, q1)
theorem s_Text_takeOneOf_L16 {X : XT} {r : Int × GS} : ∀ {G : GS}, f_Text_takeOneOf_L16 G = some r → J X true 9 0 0 M_Text_takeOneOf (Ri r.1 r.2) NC 0 0 16 [(0, rf X 15)] [] G := by
  intro G h
  unfold f_Text_takeOneOf_L16 at h
  refine j_aloadn (k := 0) (D_Text_takeOneOf 10 rfl) rfl rfl ?_
  refine j_iconst (v := 1) (D_Text_takeOneOf 11 rfl) rfl ?_
  obtain ⟨q1, e1, h⟩ := Option.bind_eq_some_iff.mp h
  refine j_cVv (c_Text_fail (wr_lit rfl) e1) rfl lk_Text_90 mok_Text_fail kd_15 lc_15 rfl (by decide) rfl rfl (Nat.le_of_ble_eq_true rfl) (D_Text_takeOneOf 12 rfl) ?_
  refine j_iconst (v := 0) (D_Text_takeOneOf 13 rfl) rfl ?_
  exact j_iret (D_Text_takeOneOf 14 rfl) rfl (wr_lit rfl) rfl rfl (leafI h (wr_n (wr_lit rfl)))
def f_Text_takeOneOf (G : GS) (a1 : Int) (a2 : Int) : Option (Int × GS) :=
  (f_Text_kind G).bind fun q1 =>
  if wr (q1 - a1) < 0 then
    f_Text_takeOneOf_L16 G
  else
    if wr (q1 - a1) < a2 then
      (f_Text_take G (wr (a1 + (wr (q1 - a1))))).bind fun q2 =>
      some (wr (q1 - a1), q2)
    else
      f_Text_takeOneOf_L16 G
theorem c_Text_takeOneOf {X : XT} {G : GS} {a1 : Int} {a2 : Int} {r : Int × GS} (ha1 : wr a1 = a1) (ha2 : wr a2 = a2) (h : f_Text_takeOneOf G a1 a2 = some r) : Call X true 9 0 0 M_Text_takeOneOf [rf X 15, vi a1, vi a2] NC G (Ri r.1 r.2) := by
  refine Call_of_J cw_Text_takeOneOf (by decide +kernel) (Nat.le_of_ble_eq_true rfl) ?_
  unfold f_Text_takeOneOf at h
  show J X true 9 0 0 M_Text_takeOneOf (Ri r.1 r.2) NC 0 0 0 [(0, rf X 15), (1, vi a1), (2, vi a2)] [] G
  refine j_aloadn (k := 0) (D_Text_takeOneOf 0 rfl) rfl rfl ?_
  obtain ⟨q1, e1, h⟩ := Option.bind_eq_some_iff.mp h
  refine j_cVi (c_Text_kind e1) rfl lk_Text_94 mok_Text_kind kd_15 lc_15 rfl (by decide) rfl rfl (Nat.le_of_ble_eq_true rfl) (D_Text_takeOneOf 1 rfl) (fun w1 => ?_)
  refine j_iloadn (k := 1) (D_Text_takeOneOf 2 rfl) rfl rfl ?_
  refine j_isub (D_Text_takeOneOf 3 rfl) ?_
  refine j_istoren (L' := [(3, vi (wr (q1 - a1))), (0, rf X 15), (1, vi a1), (2, vi a2)]) (D_Text_takeOneOf 4 rfl) rfl (rfl) (by decide) rfl ?_
  refine j_iloadn (k := 0) (D_Text_takeOneOf 5 rfl) rfl rfl ?_
  refine j_if_lt (tgt := 16) (D_Text_takeOneOf 6 rfl) rfl (wr_wr _) (fun c1 => ?_) (fun c1 => ?_)
  · replace h := ite_t h c1
    refine j_loc [1] rfl ?_
    exact s_Text_takeOneOf_L16 h
  · replace h := ite_f h c1
    refine j_iloadn (k := 0) (D_Text_takeOneOf 7 rfl) rfl rfl ?_
    refine j_iloadn (k := 3) (D_Text_takeOneOf 8 rfl) rfl rfl ?_
    refine j_ic_lt (tgt := 23) (D_Text_takeOneOf 9 rfl) rfl (wr_wr _) (ha2) (fun c2 => ?_) (fun c2 => ?_)
    · replace h := ite_t h c2
      refine j_aloadn (k := 1) (D_Text_takeOneOf 15 rfl) rfl rfl ?_
      refine j_iloadn (k := 2) (D_Text_takeOneOf 16 rfl) rfl rfl ?_
      refine j_iloadn (k := 0) (D_Text_takeOneOf 17 rfl) rfl rfl ?_
      refine j_iadd (D_Text_takeOneOf 18 rfl) ?_
      refine j_top0 (rfl) ?_
      obtain ⟨q2, e2, h⟩ := Option.bind_eq_some_iff.mp h
      refine j_cVv (c_Text_take (wr_wr _) e2) rfl lk_Text_103 mok_Text_take kd_15 lc_15 rfl (by decide) rfl rfl (Nat.le_of_ble_eq_true rfl) (D_Text_takeOneOf 19 rfl) ?_
      refine j_iloadn (k := 0) (D_Text_takeOneOf 20 rfl) rfl rfl ?_
      exact j_iret (D_Text_takeOneOf 21 rfl) rfl (wr_wr _) rfl rfl (leafI h (wr_n (wr_wr _)))
    · replace h := ite_f h c2
      refine j_loc [1] rfl ?_
      exact s_Text_takeOneOf_L16 h
abbrev M_Text_value : MI := (⟨"InquestHall$Text", "value", "()I"⟩, prog_12_method_14_code, 1, (some .int))
theorem cw_Text_value : Cond.code M_Text_value.1 M_Text_value.2.1 M_Text_value.2.2.1 M_Text_value.2.2.2 ∈ TS := mTS (List.mem_of_getElem? (i := 832) (by decide +kernel)) (by decide +kernel)
def tb_Text_value : List (Nat × Instr × Nat) := [(0, .aload_n 0, 1), (1, .getfield 49, 3), (4, .aload_n 0, 1), (5, .getfield 46, 3), (8, .if_icmp .ge 15, 3), (11, .aload_n 0, 1), (12, .getfield 22, 3), (15, .aload_n 0, 1), (16, .getfield 49, 3), (19, .iaload, 1), (20, .goto 4, 3), (23, .iconst 0, 1), (24, .ireturn, 1)]
theorem D_Text_value (i : Nat) {pc len : Nat} {ins : Instr} (hi : tb_Text_value[i]? = some (pc, ins, len)) : decode M_Text_value.2.1 pc = .ok (ins, len) := dec_of (by decide +kernel) i hi
def f_Text_value (G : GS) : Option (Int) :=
  if gi G 15 6 ≤ gi G 15 7 then
    some 0
  else
    gd (0 ≤ gi G 15 7 ∧ gi G 15 7 < 801) <|
    some (gi G 19 (gi G 15 7).toNat)
theorem c_Text_value {X : XT} {G : GS} {r : Int} (h : f_Text_value G = some r) : Call X true 6 0 0 M_Text_value [rf X 15] NC G (Ri r G) := by
  refine Call_of_J cw_Text_value (by decide +kernel) (Nat.le_of_ble_eq_true rfl) ?_
  unfold f_Text_value at h
  show J X true 6 0 0 M_Text_value (Ri r G) NC 0 0 0 [(0, rf X 15)] [] G
  refine j_aloadn (k := 0) (D_Text_value 0 rfl) rfl rfl ?_
  refine j_getI rfl fa_Text_49 kd_15 lc_15 (by decide) rfl (D_Text_value 1 rfl) ?_
  refine j_aloadn (k := 0) (D_Text_value 2 rfl) rfl rfl ?_
  refine j_getI rfl fa_Text_46 kd_15 lc_15 (by decide) rfl (D_Text_value 3 rfl) ?_
  refine j_ic_ge (tgt := 23) (D_Text_value 4 rfl) rfl (wr_gi _ _ _) (wr_gi _ _ _) (fun c1 => ?_) (fun c1 => ?_)
  · replace h := ite_t h c1
    refine j_iconst (v := 0) (D_Text_value 11 rfl) rfl ?_
    exact j_iret (D_Text_value 12 rfl) rfl (wr_lit rfl) rfl rfl (leafIo h (wr_n (wr_lit rfl)))
  · replace h := ite_f h c1
    refine j_aloadn (k := 0) (D_Text_value 5 rfl) rfl rfl ?_
    refine j_getR rfl fa_Text_22 kd_15 lc_15 (by decide) rfl fx_15_4 (by decide) (D_Text_value 6 rfl) ?_
    refine j_aloadn (k := 0) (D_Text_value 7 rfl) rfl rfl ?_
    refine j_getI rfl fa_Text_49 kd_15 lc_15 (by decide) rfl (D_Text_value 8 rfl) ?_
    have g1 := gd_c h
    replace h := gd_s h
    refine j_iald (NI := 801) (D_Text_value 9 rfl) kd_19 lc_19 (wr_gi _ _ _) rfl g1.1 g1.2 ?_
    refine j_goto (tgt := 24) (D_Text_value 10 rfl) rfl ?_
    exact j_iret (D_Text_value 12 rfl) rfl (wr_gi _ _ _) rfl rfl (leafIo h (wr_n (wr_gi _ _ _)))
abbrev M_Text_takeNumber : MI := (⟨"InquestHall$Text", "takeNumber", "(I)I"⟩, prog_12_method_19_code, 3, (some .int))
theorem cw_Text_takeNumber : Cond.code M_Text_takeNumber.1 M_Text_takeNumber.2.1 M_Text_takeNumber.2.2.1 M_Text_takeNumber.2.2.2 ∈ TS := mTS (List.mem_of_getElem? (i := 828) (by decide +kernel)) (by decide +kernel)
theorem lk_Text_100 : Cond.methodLink "InquestHall$Text" 100 M_Text_value.1 ∈ TS := mTS (List.mem_of_getElem? (i := 829) (by decide +kernel)) (by decide +kernel)
theorem mok_Text_value : MOK M_Text_value 0 := ⟨mTS (List.mem_of_getElem? (i := 830) (by decide +kernel)) (by decide +kernel), mTS (List.mem_of_getElem? (i := 831) (by decide +kernel)) (by decide +kernel), mTS (List.mem_of_getElem? (i := 125) (by decide +kernel)) (by decide +kernel), cw_Text_value, ⟨by decide, by decide, by decide +kernel⟩, by decide +kernel, by decide⟩
def tb_Text_takeNumber : List (Nat × Instr × Nat) := [(0, .aload_n 0, 1), (1, .invokevirtual 100, 3), (4, .istore_n 2, 1), (5, .aload_n 0, 1), (6, .getfield 52, 3), (9, .ifCond .ne 21, 3), (12, .aload_n 0, 1), (13, .invokevirtual 94, 3), (16, .iconst 2, 1), (17, .if_icmp .ne 13, 3), (20, .iload_n 2, 1), (21, .iload_n 1, 1), (22, .if_icmp .le 8, 3), (25, .aload_n 0, 1), (26, .iconst 2, 1), (27, .invokevirtual 90, 3), (30, .aload_n 0, 1), (31, .iconst 2, 1), (32, .invokevirtual 103, 3), (35, .iload_n 2, 1), (36, .ireturn, 1)]
theorem D_Text_takeNumber (i : Nat) {pc len : Nat} {ins : Instr} (hi : tb_Text_takeNumber[i]? = some (pc, ins, len)) : decode M_Text_takeNumber.2.1 pc = .ok (ins, len) := dec_of (by decide +kernel) i hi
def f_Text_takeNumber_L30 (G : GS) (x2 : Int) : Option (Int × GS) :=
  (f_Text_take G 2).bind fun q1 =>
  some (x2, q1)
theorem s_Text_takeNumber_L30 {X : XT} {r : Int × GS} : ∀ {G : GS} {x2 : Int}, wr x2 = x2 → f_Text_takeNumber_L30 G x2 = some r → J X true 9 0 0 M_Text_takeNumber (Ri r.1 r.2) NC 0 0 30 [(0, rf X 15), (2, vi x2)] [] G := by
  intro G x2 hx2 h
  unfold f_Text_takeNumber_L30 at h
  refine j_aloadn (k := 0) (D_Text_takeNumber 16 rfl) rfl rfl ?_
  refine j_iconst (v := 2) (D_Text_takeNumber 17 rfl) rfl ?_
  obtain ⟨q1, e1, h⟩ := Option.bind_eq_some_iff.mp h
  refine j_cVv (c_Text_take (wr_lit rfl) e1) rfl lk_Text_103 mok_Text_take kd_15 lc_15 rfl (by decide) rfl rfl (Nat.le_of_ble_eq_true rfl) (D_Text_takeNumber 18 rfl) ?_
  refine j_iloadn (k := 1) (D_Text_takeNumber 19 rfl) rfl rfl ?_
  exact j_iret (D_Text_takeNumber 20 rfl) rfl (hx2) rfl rfl (leafI h (wr_n (hx2)))
def f_Text_takeNumber (G : GS) (a1 : Int) : Option (Int × GS) :=
  (f_Text_value G).bind fun q1 =>
  if gi G 15 8 = 0 then
    (f_Text_kind G).bind fun q2 =>
    if q2 = 2 then
      if q1 ≤ a1 then
        f_Text_takeNumber_L30 G q1
      else
        (f_Text_fail G 2).bind fun q3 =>
        f_Text_takeNumber_L30 q3 q1
    else
      f_Text_takeNumber_L30 G q1
  else
    f_Text_takeNumber_L30 G q1
theorem c_Text_takeNumber {X : XT} {G : GS} {a1 : Int} {r : Int × GS} (ha1 : wr a1 = a1) (h : f_Text_takeNumber G a1 = some r) : Call X true 9 0 0 M_Text_takeNumber [rf X 15, vi a1] NC G (Ri r.1 r.2) := by
  refine Call_of_J cw_Text_takeNumber (by decide +kernel) (Nat.le_of_ble_eq_true rfl) ?_
  unfold f_Text_takeNumber at h
  show J X true 9 0 0 M_Text_takeNumber (Ri r.1 r.2) NC 0 0 0 [(0, rf X 15), (1, vi a1)] [] G
  refine j_aloadn (k := 0) (D_Text_takeNumber 0 rfl) rfl rfl ?_
  obtain ⟨q1, e1, h⟩ := Option.bind_eq_some_iff.mp h
  refine j_cVi (c_Text_value e1) rfl lk_Text_100 mok_Text_value kd_15 lc_15 rfl (by decide) rfl rfl (Nat.le_of_ble_eq_true rfl) (D_Text_takeNumber 1 rfl) (fun w1 => ?_)
  refine j_istoren (L' := [(2, vi q1), (0, rf X 15), (1, vi a1)]) (D_Text_takeNumber 2 rfl) rfl (w1) (by decide) rfl ?_
  refine j_aloadn (k := 1) (D_Text_takeNumber 3 rfl) rfl rfl ?_
  refine j_getI rfl fa_Text_52 kd_15 lc_15 (by decide) rfl (D_Text_takeNumber 4 rfl) ?_
  refine j_if_ne (tgt := 30) (D_Text_takeNumber 5 rfl) rfl (wr_gi _ _ _) (fun c1 => ?_) (fun c1 => ?_)
  · replace h := ite_f h c1
    refine j_loc [1, 0] rfl ?_
    exact s_Text_takeNumber_L30 (w1) h
  · replace h := ite_t h c1
    refine j_aloadn (k := 1) (D_Text_takeNumber 6 rfl) rfl rfl ?_
    obtain ⟨q2, e2, h⟩ := Option.bind_eq_some_iff.mp h
    refine j_cVi (c_Text_kind e2) rfl lk_Text_94 mok_Text_kind kd_15 lc_15 rfl (by decide) rfl rfl (Nat.le_of_ble_eq_true rfl) (D_Text_takeNumber 7 rfl) (fun w2 => ?_)
    refine j_iconst (v := 2) (D_Text_takeNumber 8 rfl) rfl ?_
    refine j_ic_ne (tgt := 30) (D_Text_takeNumber 9 rfl) rfl (w2) (wr_lit rfl) (fun c2 => ?_) (fun c2 => ?_)
    · replace h := ite_f h c2
      refine j_loc [1, 0] rfl ?_
      exact s_Text_takeNumber_L30 (w1) h
    · replace h := ite_t h c2
      refine j_iloadn (k := 0) (D_Text_takeNumber 10 rfl) rfl rfl ?_
      refine j_iloadn (k := 2) (D_Text_takeNumber 11 rfl) rfl rfl ?_
      refine j_ic_le (tgt := 30) (D_Text_takeNumber 12 rfl) rfl (w1) (ha1) (fun c3 => ?_) (fun c3 => ?_)
      · replace h := ite_t h c3
        refine j_loc [1, 0] rfl ?_
        exact s_Text_takeNumber_L30 (w1) h
      · replace h := ite_f h c3
        refine j_aloadn (k := 1) (D_Text_takeNumber 13 rfl) rfl rfl ?_
        refine j_iconst (v := 2) (D_Text_takeNumber 14 rfl) rfl ?_
        obtain ⟨q3, e3, h⟩ := Option.bind_eq_some_iff.mp h
        refine j_cVv (c_Text_fail (wr_lit rfl) e3) rfl lk_Text_90 mok_Text_fail kd_15 lc_15 rfl (by decide) rfl rfl (Nat.le_of_ble_eq_true rfl) (D_Text_takeNumber 15 rfl) ?_
        refine j_loc [1, 0] rfl ?_
        exact s_Text_takeNumber_L30 (w1) h
abbrev M_LawReader_heirsLine : MI := (⟨"InquestHall$LawReader", "heirsLine", "()V"⟩, prog_6_method_5_code, 3, none)
theorem cw_LawReader_heirsLine : Cond.code M_LawReader_heirsLine.1 M_LawReader_heirsLine.2.1 M_LawReader_heirsLine.2.2.1 M_LawReader_heirsLine.2.2.2 ∈ TS := mTS (List.mem_of_getElem? (i := 817) (by decide +kernel)) (by decide +kernel)
theorem fa_LawReader_15 : FA "InquestHall$LawReader" 15 4 0 true (.object "InquestHall$Text") := ⟨_, _, _, _, ok_LawReader, by decide, mTS (List.mem_of_getElem? (i := 335) (by decide +kernel)) (by decide +kernel), rfl, rfl⟩
theorem kd_21 : kd 21 = (4 + 5, 9) := rfl
theorem lc_21 : 21 < NC := by decide
theorem fx_21_0 {G : GS} (w : WF true NC G) : G.2.2 21 0 = 15 := w.2 rfl (21, 0, 15) (by decide)
theorem lk_LawReader_77 : Cond.methodLink "InquestHall$LawReader" 77 M_Text_takeOneOf.1 ∈ TS := mTS (List.mem_of_getElem? (i := 818) (by decide +kernel)) (by decide +kernel)
theorem mok_Text_takeOneOf : MOK M_Text_takeOneOf 2 := ⟨mTS (List.mem_of_getElem? (i := 819) (by decide +kernel)) (by decide +kernel), mTS (List.mem_of_getElem? (i := 820) (by decide +kernel)) (by decide +kernel), mTS (List.mem_of_getElem? (i := 125) (by decide +kernel)) (by decide +kernel), cw_Text_takeOneOf, ⟨by decide, by decide, by decide +kernel⟩, by decide +kernel, by decide⟩
theorem lk_LawReader_81 : Cond.methodLink "InquestHall$LawReader" 81 M_Text_takeIf.1 ∈ TS := mTS (List.mem_of_getElem? (i := 823) (by decide +kernel)) (by decide +kernel)
theorem lk_LawReader_61 : Cond.methodLink "InquestHall$LawReader" 61 M_Text_takeNumber.1 ∈ TS := mTS (List.mem_of_getElem? (i := 825) (by decide +kernel)) (by decide +kernel)
theorem mok_Text_takeNumber : MOK M_Text_takeNumber 1 := ⟨mTS (List.mem_of_getElem? (i := 826) (by decide +kernel)) (by decide +kernel), mTS (List.mem_of_getElem? (i := 827) (by decide +kernel)) (by decide +kernel), mTS (List.mem_of_getElem? (i := 125) (by decide +kernel)) (by decide +kernel), cw_Text_takeNumber, ⟨by decide, by decide, by decide +kernel⟩, by decide +kernel, by decide⟩
theorem fa_LawReader_30 : FA "InquestHall$LawReader" 30 3 8 false .int := ⟨_, _, _, _, ok_Text, by decide, mTS (List.mem_of_getElem? (i := 301) (by decide +kernel)) (by decide +kernel), rfl, rfl⟩
theorem fa_LawReader_19 : FA "InquestHall$LawReader" 19 4 1 false (.object "InquestHall$Law") := ⟨_, _, _, _, ok_LawReader, by decide, mTS (List.mem_of_getElem? (i := 336) (by decide +kernel)) (by decide +kernel), rfl, rfl⟩
theorem fa_LawReader_84 : FA "InquestHall$LawReader" 84 11 0 true (.array .int) := ⟨_, _, _, _, ok_Law, by decide, mTS (List.mem_of_getElem? (i := 544) (by decide +kernel)) (by decide +kernel), rfl, rfl⟩
theorem lk_LawReader_87 : Cond.methodLink "InquestHall$LawReader" 87 M_Arrays_fill.1 ∈ TS := mTS (List.mem_of_getElem? (i := 824) (by decide +kernel)) (by decide +kernel)
def tb_LawReader_heirsLine : List (Nat × Instr × Nat) := [(0, .aload_n 0, 1), (1, .getfield 15, 3), (4, .bipush 107, 2), (6, .iconst 3, 1), (7, .invokevirtual 77, 3), (10, .istore_n 1, 1), (11, .aload_n 0, 1), (12, .getfield 15, 3), (15, .bipush 121, 2), (17, .invokevirtual 81, 3), (20, .ifCond .ne 15, 3), (23, .aload_n 0, 1), (24, .getfield 19, 3), (27, .getfield 84, 3), (30, .iload_n 1, 1), (31, .invokestatic 87, 3), (34, .return_, 1), (35, .aload_n 0, 1), (36, .getfield 15, 3), (39, .iconst 3, 1), (40, .invokevirtual 61, 3), (43, .istore_n 2, 1), (44, .aload_n 0, 1), (45, .getfield 15, 3), (48, .getfield 30, 3), (51, .ifCond .ne 25, 3), (54, .iload_n 2, 1), (55, .aload_n 0, 1), (56, .getfield 19, 3), (59, .getfield 84, 3), (62, .arraylength, 1), (63, .if_icmp .ge 13, 3), (66, .aload_n 0, 1), (67, .getfield 19, 3), (70, .getfield 84, 3), (73, .iload_n 2, 1), (74, .iload_n 1, 1), (75, .iastore, 1), (76, .return_, 1)]
theorem D_LawReader_heirsLine (i : Nat) {pc len : Nat} {ins : Instr} (hi : tb_LawReader_heirsLine[i]? = some (pc, ins, len)) : decode M_LawReader_heirsLine.2.1 pc = .ok (ins, len) := dec_of (by decide +kernel) i hi
def f_LawReader_heirsLine (G : GS) : Option (GS) :=
  (f_Text_takeOneOf G 107 3).bind fun q1 =>
  (f_Text_takeIf q1.2 121).bind fun q2 =>
  if q2.1 = 0 then
    gd (lawC (gp q2.2 21 1) = true) <|
    wG (fillG q2.2 ((gp q2.2 21 1) + 1) 4 q1.1) fun G2 =>
    some G2
  else
    (f_Text_takeNumber q2.2 3).bind fun q3 =>
    if gi q3.2 15 8 = 0 then
      gd (lawC (gp q3.2 21 1) = true) <|
      if 4 ≤ q3.1 then
        some q3.2
      else
        gd (lawC (gp q3.2 21 1) = true) <|
        gd (0 ≤ q3.1 ∧ q3.1 < 4) <|
        wG (si q3.2 ((gp q3.2 21 1) + 1) q3.1.toNat q1.1) fun G1 =>
        some G1
    else
      some q3.2
theorem c_LawReader_heirsLine {X : XT} {G : GS} {r : GS} (h : f_LawReader_heirsLine G = some r) : Call X true 10 0 0 M_LawReader_heirsLine [rf X 21] NC G (Rv r) := by
  refine Call_of_J cw_LawReader_heirsLine (by decide +kernel) (Nat.le_of_ble_eq_true rfl) ?_
  unfold f_LawReader_heirsLine at h
  show J X true 10 0 0 M_LawReader_heirsLine (Rv r) NC 0 0 0 [(0, rf X 21)] [] G
  refine j_aloadn (k := 0) (D_LawReader_heirsLine 0 rfl) rfl rfl ?_
  refine j_getR rfl fa_LawReader_15 kd_21 lc_21 (by decide) rfl fx_21_0 (by decide) (D_LawReader_heirsLine 1 rfl) ?_
  refine j_bipush (v := 107) (D_LawReader_heirsLine 2 rfl) rfl ?_
  refine j_iconst (v := 3) (D_LawReader_heirsLine 3 rfl) rfl ?_
  obtain ⟨q1, e1, h⟩ := Option.bind_eq_some_iff.mp h
  refine j_cVi (c_Text_takeOneOf (wr_lit rfl) (wr_lit rfl) e1) rfl lk_LawReader_77 mok_Text_takeOneOf kd_15 lc_15 rfl (by decide) rfl rfl (Nat.le_of_ble_eq_true rfl) (D_LawReader_heirsLine 4 rfl) (fun w1 => ?_)
  refine j_istoren (L' := [(1, vi q1.1), (0, rf X 21)]) (D_LawReader_heirsLine 5 rfl) rfl (w1) (by decide) rfl ?_
  refine j_aloadn (k := 1) (D_LawReader_heirsLine 6 rfl) rfl rfl ?_
  refine j_getR rfl fa_LawReader_15 kd_21 lc_21 (by decide) rfl fx_21_0 (by decide) (D_LawReader_heirsLine 7 rfl) ?_
  refine j_bipush (v := 121) (D_LawReader_heirsLine 8 rfl) rfl ?_
  obtain ⟨q2, e2, h⟩ := Option.bind_eq_some_iff.mp h
  refine j_cVz (c_Text_takeIf (wr_lit rfl) e2) rfl lk_LawReader_81 mok_Text_takeIf kd_15 lc_15 rfl (by decide) rfl rfl (Nat.le_of_ble_eq_true rfl) (D_LawReader_heirsLine 9 rfl) (fun w2 bw2 => ?_)
  refine j_if_ne (tgt := 35) (D_LawReader_heirsLine 10 rfl) rfl (w2) (fun c1 => ?_) (fun c1 => ?_)
  · replace h := ite_f h c1
    refine j_aloadn (k := 1) (D_LawReader_heirsLine 17 rfl) rfl rfl ?_
    refine j_getR rfl fa_LawReader_15 kd_21 lc_21 (by decide) rfl fx_21_0 (by decide) (D_LawReader_heirsLine 18 rfl) ?_
    refine j_iconst (v := 3) (D_LawReader_heirsLine 19 rfl) rfl ?_
    obtain ⟨q3, e3, h⟩ := Option.bind_eq_some_iff.mp h
    refine j_cVi (c_Text_takeNumber (wr_lit rfl) e3) rfl lk_LawReader_61 mok_Text_takeNumber kd_15 lc_15 rfl (by decide) rfl rfl (Nat.le_of_ble_eq_true rfl) (D_LawReader_heirsLine 20 rfl) (fun w3 => ?_)
    refine j_istoren (L' := [(2, vi q3.1), (1, vi q1.1), (0, rf X 21)]) (D_LawReader_heirsLine 21 rfl) rfl (w3) (by decide) rfl ?_
    refine j_aloadn (k := 2) (D_LawReader_heirsLine 22 rfl) rfl rfl ?_
    refine j_getR rfl fa_LawReader_15 kd_21 lc_21 (by decide) rfl fx_21_0 (by decide) (D_LawReader_heirsLine 23 rfl) ?_
    refine j_getI rfl fa_LawReader_30 kd_15 lc_15 (by decide) rfl (D_LawReader_heirsLine 24 rfl) ?_
    refine j_if_ne (tgt := 76) (D_LawReader_heirsLine 25 rfl) rfl (wr_gi _ _ _) (fun c2 => ?_) (fun c2 => ?_)
    · replace h := ite_f h c2
      exact j_vret (D_LawReader_heirsLine 38 rfl) rfl rfl rfl (leafV h)
    · replace h := ite_t h c2
      refine j_iloadn (k := 0) (D_LawReader_heirsLine 26 rfl) rfl rfl ?_
      refine j_aloadn (k := 2) (D_LawReader_heirsLine 27 rfl) rfl rfl ?_
      have g1 := gd_c h
      replace h := gd_s h
      refine j_getR rfl fa_LawReader_19 kd_21 lc_21 (by decide) rfl (fun _ => rfl) (law_kd g1).2.2 (D_LawReader_heirsLine 28 rfl) ?_
      refine j_getR rfl fa_LawReader_84 (law_kd g1).1 (law_kd g1).2.1 (by decide) rfl (fun w => law_fx1 w g1) (by omega) (D_LawReader_heirsLine 29 rfl) ?_
      refine j_alenI (NI := 4) (D_LawReader_heirsLine 30 rfl) (law_kd1 g1).1 (law_kd1 g1).2 rfl ?_
      refine j_ic_ge (tgt := 76) (D_LawReader_heirsLine 31 rfl) rfl (w3) (wr_lit rfl) (fun c3 => ?_) (fun c3 => ?_)
      · replace h := ite_t h c3
        exact j_vret (D_LawReader_heirsLine 38 rfl) rfl rfl rfl (leafV h)
      · replace h := ite_f h c3
        refine j_aloadn (k := 2) (D_LawReader_heirsLine 32 rfl) rfl rfl ?_
        have g2 := gd_c h
        replace h := gd_s h
        refine j_getR rfl fa_LawReader_19 kd_21 lc_21 (by decide) rfl (fun _ => rfl) (law_kd g2).2.2 (D_LawReader_heirsLine 33 rfl) ?_
        refine j_getR rfl fa_LawReader_84 (law_kd g2).1 (law_kd g2).2.1 (by decide) rfl (fun w => law_fx1 w g2) (by omega) (D_LawReader_heirsLine 34 rfl) ?_
        refine j_iloadn (k := 0) (D_LawReader_heirsLine 35 rfl) rfl rfl ?_
        refine j_iloadn (k := 1) (D_LawReader_heirsLine 36 rfl) rfl rfl ?_
        have g3 := gd_c h
        replace h := gd_s h
        refine j_iast (NI := 4) (D_LawReader_heirsLine 37 rfl) (law_kd1 g2).1 (law_kd1 g2).2 (w3) rfl g3.1 g3.2 ?_
        refine j_gen (fun G1 e4 => ?_)
        replace h := wG_at h e4
        exact j_vret (D_LawReader_heirsLine 38 rfl) rfl rfl rfl (leafV h)
  · replace h := ite_t h c1
    refine j_aloadn (k := 1) (D_LawReader_heirsLine 11 rfl) rfl rfl ?_
    have g4 := gd_c h
    replace h := gd_s h
    refine j_getR rfl fa_LawReader_19 kd_21 lc_21 (by decide) rfl (fun _ => rfl) (law_kd g4).2.2 (D_LawReader_heirsLine 12 rfl) ?_
    refine j_getR rfl fa_LawReader_84 (law_kd g4).1 (law_kd g4).2.1 (by decide) rfl (fun w => law_fx1 w g4) (by omega) (D_LawReader_heirsLine 13 rfl) ?_
    refine j_iloadn (k := 0) (D_LawReader_heirsLine 14 rfl) rfl rfl ?_
    refine j_cSv (c_fill (law_kd1 g4).1 (law_kd1 g4).2 (w1)) rfl lk_LawReader_87 sokfill (by decide) rfl rfl (Nat.le_of_ble_eq_true rfl) (D_LawReader_heirsLine 15 rfl) ?_
    refine j_gen (fun G2 e5 => ?_)
    replace h := wG_at h e5
    exact j_vret (D_LawReader_heirsLine 16 rfl) rfl rfl rfl (leafV h)
abbrev M_LawReader_wardLine : MI := (⟨"InquestHall$LawReader", "wardLine", "()V"⟩, prog_6_method_6_code, 5, none)
theorem cw_LawReader_wardLine : Cond.code M_LawReader_wardLine.1 M_LawReader_wardLine.2.1 M_LawReader_wardLine.2.2.1 M_LawReader_wardLine.2.2.2 ∈ TS := mTS (List.mem_of_getElem? (i := 836) (by decide +kernel)) (by decide +kernel)
theorem lk_LawReader_49 : Cond.methodLink "InquestHall$LawReader" 49 M_Text_take.1 ∈ TS := mTS (List.mem_of_getElem? (i := 800) (by decide +kernel)) (by decide +kernel)
theorem fa_LawReader_93 : FA "InquestHall$LawReader" 93 11 1 true (.array .int) := ⟨_, _, _, _, ok_Law, by decide, mTS (List.mem_of_getElem? (i := 547) (by decide +kernel)) (by decide +kernel), rfl, rfl⟩
theorem fa_LawReader_96 : FA "InquestHall$LawReader" 96 11 2 true (.array .int) := ⟨_, _, _, _, ok_Law, by decide, mTS (List.mem_of_getElem? (i := 550) (by decide +kernel)) (by decide +kernel), rfl, rfl⟩
theorem fa_LawReader_99 : FA "InquestHall$LawReader" 99 11 3 true (.array .int) := ⟨_, _, _, _, ok_Law, by decide, mTS (List.mem_of_getElem? (i := 553) (by decide +kernel)) (by decide +kernel), rfl, rfl⟩
def tb_LawReader_wardLine : List (Nat × Instr × Nat) := [(0, .aload_n 0, 1), (1, .getfield 15, 3), (4, .bipush 110, 2), (6, .iconst 3, 1), (7, .invokevirtual 77, 3), (10, .istore_n 1, 1), (11, .aload_n 0, 1), (12, .getfield 15, 3), (15, .bipush 122, 2), (17, .invokevirtual 49, 3), (20, .aload_n 0, 1), (21, .getfield 15, 3), (24, .bipush 40, 2), (26, .invokevirtual 61, 3), (29, .istore_n 2, 1), (30, .aload_n 0, 1), (31, .getfield 15, 3), (34, .bipush 123, 2), (36, .invokevirtual 81, 3), (39, .ifCond .eq 15, 3), (42, .aload_n 0, 1), (43, .getfield 15, 3), (46, .bipush 40, 2), (48, .invokevirtual 61, 3), (51, .goto 4, 3), (54, .iload_n 2, 1), (55, .istore_n 3, 1), (56, .aload_n 0, 1), (57, .getfield 15, 3), (60, .bipush 124, 2), (62, .invokevirtual 49, 3), (65, .aload_n 0, 1), (66, .getfield 15, 3), (69, .bipush 113, 2), (71, .iconst 3, 1), (72, .invokevirtual 77, 3), (75, .istore 4, 2), (77, .aload_n 0, 1), (78, .getfield 19, 3), (81, .getfield 93, 3), (84, .iload_n 1, 1), (85, .iload_n 2, 1), (86, .iastore, 1), (87, .aload_n 0, 1), (88, .getfield 19, 3), (91, .getfield 96, 3), (94, .iload_n 1, 1), (95, .iload_n 3, 1), (96, .iastore, 1), (97, .aload_n 0, 1), (98, .getfield 19, 3), (101, .getfield 99, 3), (104, .iload_n 1, 1), (105, .iload 4, 2), (107, .iastore, 1), (108, .return_, 1)]
theorem D_LawReader_wardLine (i : Nat) {pc len : Nat} {ins : Instr} (hi : tb_LawReader_wardLine[i]? = some (pc, ins, len)) : decode M_LawReader_wardLine.2.1 pc = .ok (ins, len) := dec_of (by decide +kernel) i hi
def f_LawReader_wardLine_L55 (G : GS) (x1 : Int) (x2 : Int) (s0 : Int) : Option (GS) :=
  (f_Text_take G 124).bind fun q1 =>
  (f_Text_takeOneOf q1 113 3).bind fun q2 =>
  gd (lawC (gp q2.2 21 1) = true) <|
  gd (0 ≤ x1 ∧ x1 < 3) <|
  wG (si q2.2 ((gp q2.2 21 1) + 2) x1.toNat x2) fun G1 =>
  gd (lawC (gp G1 21 1) = true) <|
  gd (0 ≤ x1 ∧ x1 < 3) <|
  wG (si G1 ((gp G1 21 1) + 3) x1.toNat s0) fun G2 =>
  gd (lawC (gp G2 21 1) = true) <|
  gd (0 ≤ x1 ∧ x1 < 3) <|
  wG (si G2 ((gp G2 21 1) + 4) x1.toNat q2.1) fun G3 =>
  some G3
theorem s_LawReader_wardLine_L55 {X : XT} {r : GS} : ∀ {G : GS} {x1 : Int} {x2 : Int} {s0 : Int}, wr x1 = x1 → wr x2 = x2 → wr s0 = s0 → f_LawReader_wardLine_L55 G x1 x2 s0 = some r → J X true 10 0 0 M_LawReader_wardLine (Rv r) NC 0 0 55 [(0, rf X 21), (1, vi x1), (2, vi x2)] [vi s0] G := by
  intro G x1 x2 s0 hx1 hx2 hs0 h
  unfold f_LawReader_wardLine_L55 at h
  refine j_istoren (L' := [(3, vi s0), (0, rf X 21), (1, vi x1), (2, vi x2)]) (D_LawReader_wardLine 26 rfl) rfl (hs0) (by decide) rfl ?_
  refine j_aloadn (k := 1) (D_LawReader_wardLine 27 rfl) rfl rfl ?_
  refine j_getR rfl fa_LawReader_15 kd_21 lc_21 (by decide) rfl fx_21_0 (by decide) (D_LawReader_wardLine 28 rfl) ?_
  refine j_bipush (v := 124) (D_LawReader_wardLine 29 rfl) rfl ?_
  obtain ⟨q1, e1, h⟩ := Option.bind_eq_some_iff.mp h
  refine j_cVv (c_Text_take (wr_lit rfl) e1) rfl lk_LawReader_49 mok_Text_take kd_15 lc_15 rfl (by decide) rfl rfl (Nat.le_of_ble_eq_true rfl) (D_LawReader_wardLine 30 rfl) ?_
  refine j_aloadn (k := 1) (D_LawReader_wardLine 31 rfl) rfl rfl ?_
  refine j_getR rfl fa_LawReader_15 kd_21 lc_21 (by decide) rfl fx_21_0 (by decide) (D_LawReader_wardLine 32 rfl) ?_
  refine j_bipush (v := 113) (D_LawReader_wardLine 33 rfl) rfl ?_
  refine j_iconst (v := 3) (D_LawReader_wardLine 34 rfl) rfl ?_
  obtain ⟨q2, e2, h⟩ := Option.bind_eq_some_iff.mp h
  refine j_cVi (c_Text_takeOneOf (wr_lit rfl) (wr_lit rfl) e2) rfl lk_LawReader_77 mok_Text_takeOneOf kd_15 lc_15 rfl (by decide) rfl rfl (Nat.le_of_ble_eq_true rfl) (D_LawReader_wardLine 35 rfl) (fun w1 => ?_)
  refine j_istore (L' := [(4, vi q2.1), (3, vi s0), (0, rf X 21), (1, vi x1), (2, vi x2)]) (D_LawReader_wardLine 36 rfl) (w1) (by decide) rfl ?_
  refine j_aloadn (k := 2) (D_LawReader_wardLine 37 rfl) rfl rfl ?_
  have g1 := gd_c h
  replace h := gd_s h
  refine j_getR rfl fa_LawReader_19 kd_21 lc_21 (by decide) rfl (fun _ => rfl) (law_kd g1).2.2 (D_LawReader_wardLine 38 rfl) ?_
  refine j_getR rfl fa_LawReader_93 (law_kd g1).1 (law_kd g1).2.1 (by decide) rfl (fun w => law_fx2 w g1) (by omega) (D_LawReader_wardLine 39 rfl) ?_
  refine j_iloadn (k := 3) (D_LawReader_wardLine 40 rfl) rfl rfl ?_
  refine j_iloadn (k := 4) (D_LawReader_wardLine 41 rfl) rfl rfl ?_
  have g2 := gd_c h
  replace h := gd_s h
  refine j_iast (NI := 3) (D_LawReader_wardLine 42 rfl) (law_kd2 g1).1 (law_kd2 g1).2 (hx1) rfl g2.1 g2.2 ?_
  refine j_gen (fun G1 e3 => ?_)
  replace h := wG_at h e3
  refine j_aloadn (k := 2) (D_LawReader_wardLine 43 rfl) rfl rfl ?_
  have g3 := gd_c h
  replace h := gd_s h
  refine j_getR rfl fa_LawReader_19 kd_21 lc_21 (by decide) rfl (fun _ => rfl) (law_kd g3).2.2 (D_LawReader_wardLine 44 rfl) ?_
  refine j_getR rfl fa_LawReader_96 (law_kd g3).1 (law_kd g3).2.1 (by decide) rfl (fun w => law_fx3 w g3) (by omega) (D_LawReader_wardLine 45 rfl) ?_
  refine j_iloadn (k := 3) (D_LawReader_wardLine 46 rfl) rfl rfl ?_
  refine j_iloadn (k := 1) (D_LawReader_wardLine 47 rfl) rfl rfl ?_
  have g4 := gd_c h
  replace h := gd_s h
  refine j_iast (NI := 3) (D_LawReader_wardLine 48 rfl) (law_kd3 g3).1 (law_kd3 g3).2 (hx1) rfl g4.1 g4.2 ?_
  refine j_gen (fun G2 e4 => ?_)
  replace h := wG_at h e4
  refine j_aloadn (k := 2) (D_LawReader_wardLine 49 rfl) rfl rfl ?_
  have g5 := gd_c h
  replace h := gd_s h
  refine j_getR rfl fa_LawReader_19 kd_21 lc_21 (by decide) rfl (fun _ => rfl) (law_kd g5).2.2 (D_LawReader_wardLine 50 rfl) ?_
  refine j_getR rfl fa_LawReader_99 (law_kd g5).1 (law_kd g5).2.1 (by decide) rfl (fun w => law_fx4 w g5) (by omega) (D_LawReader_wardLine 51 rfl) ?_
  refine j_iloadn (k := 3) (D_LawReader_wardLine 52 rfl) rfl rfl ?_
  refine j_iload (k := 0) (D_LawReader_wardLine 53 rfl) rfl ?_
  have g6 := gd_c h
  replace h := gd_s h
  refine j_iast (NI := 3) (D_LawReader_wardLine 54 rfl) (law_kd4 g5).1 (law_kd4 g5).2 (hx1) rfl g6.1 g6.2 ?_
  refine j_gen (fun G3 e5 => ?_)
  replace h := wG_at h e5
  exact j_vret (D_LawReader_wardLine 55 rfl) rfl rfl rfl (leafV h)
def f_LawReader_wardLine (G : GS) : Option (GS) :=
  (f_Text_takeOneOf G 110 3).bind fun q1 =>
  (f_Text_take q1.2 122).bind fun q2 =>
  (f_Text_takeNumber q2 40).bind fun q3 =>
  (f_Text_takeIf q3.2 123).bind fun q4 =>
  if q4.1 = 0 then
    f_LawReader_wardLine_L55 q4.2 q1.1 q3.1 q3.1
  else
    (f_Text_takeNumber q4.2 40).bind fun q5 =>
    f_LawReader_wardLine_L55 q5.2 q1.1 q3.1 q5.1
theorem c_LawReader_wardLine {X : XT} {G : GS} {r : GS} (h : f_LawReader_wardLine G = some r) : Call X true 10 0 0 M_LawReader_wardLine [rf X 21] NC G (Rv r) := by
  refine Call_of_J cw_LawReader_wardLine (by decide +kernel) (Nat.le_of_ble_eq_true rfl) ?_
  unfold f_LawReader_wardLine at h
  show J X true 10 0 0 M_LawReader_wardLine (Rv r) NC 0 0 0 [(0, rf X 21)] [] G
  refine j_aloadn (k := 0) (D_LawReader_wardLine 0 rfl) rfl rfl ?_
  refine j_getR rfl fa_LawReader_15 kd_21 lc_21 (by decide) rfl fx_21_0 (by decide) (D_LawReader_wardLine 1 rfl) ?_
  refine j_bipush (v := 110) (D_LawReader_wardLine 2 rfl) rfl ?_
  refine j_iconst (v := 3) (D_LawReader_wardLine 3 rfl) rfl ?_
  obtain ⟨q1, e1, h⟩ := Option.bind_eq_some_iff.mp h
  refine j_cVi (c_Text_takeOneOf (wr_lit rfl) (wr_lit rfl) e1) rfl lk_LawReader_77 mok_Text_takeOneOf kd_15 lc_15 rfl (by decide) rfl rfl (Nat.le_of_ble_eq_true rfl) (D_LawReader_wardLine 4 rfl) (fun w1 => ?_)
  refine j_istoren (L' := [(1, vi q1.1), (0, rf X 21)]) (D_LawReader_wardLine 5 rfl) rfl (w1) (by decide) rfl ?_
  refine j_aloadn (k := 1) (D_LawReader_wardLine 6 rfl) rfl rfl ?_
  refine j_getR rfl fa_LawReader_15 kd_21 lc_21 (by decide) rfl fx_21_0 (by decide) (D_LawReader_wardLine 7 rfl) ?_
  refine j_bipush (v := 122) (D_LawReader_wardLine 8 rfl) rfl ?_
  obtain ⟨q2, e2, h⟩ := Option.bind_eq_some_iff.mp h
  refine j_cVv (c_Text_take (wr_lit rfl) e2) rfl lk_LawReader_49 mok_Text_take kd_15 lc_15 rfl (by decide) rfl rfl (Nat.le_of_ble_eq_true rfl) (D_LawReader_wardLine 9 rfl) ?_
  refine j_aloadn (k := 1) (D_LawReader_wardLine 10 rfl) rfl rfl ?_
  refine j_getR rfl fa_LawReader_15 kd_21 lc_21 (by decide) rfl fx_21_0 (by decide) (D_LawReader_wardLine 11 rfl) ?_
  refine j_bipush (v := 40) (D_LawReader_wardLine 12 rfl) rfl ?_
  obtain ⟨q3, e3, h⟩ := Option.bind_eq_some_iff.mp h
  refine j_cVi (c_Text_takeNumber (wr_lit rfl) e3) rfl lk_LawReader_61 mok_Text_takeNumber kd_15 lc_15 rfl (by decide) rfl rfl (Nat.le_of_ble_eq_true rfl) (D_LawReader_wardLine 13 rfl) (fun w2 => ?_)
  refine j_istoren (L' := [(2, vi q3.1), (1, vi q1.1), (0, rf X 21)]) (D_LawReader_wardLine 14 rfl) rfl (w2) (by decide) rfl ?_
  refine j_aloadn (k := 2) (D_LawReader_wardLine 15 rfl) rfl rfl ?_
  refine j_getR rfl fa_LawReader_15 kd_21 lc_21 (by decide) rfl fx_21_0 (by decide) (D_LawReader_wardLine 16 rfl) ?_
  refine j_bipush (v := 123) (D_LawReader_wardLine 17 rfl) rfl ?_
  obtain ⟨q4, e4, h⟩ := Option.bind_eq_some_iff.mp h
  refine j_cVz (c_Text_takeIf (wr_lit rfl) e4) rfl lk_LawReader_81 mok_Text_takeIf kd_15 lc_15 rfl (by decide) rfl rfl (Nat.le_of_ble_eq_true rfl) (D_LawReader_wardLine 18 rfl) (fun w3 bw3 => ?_)
  refine j_if_eq (tgt := 54) (D_LawReader_wardLine 19 rfl) rfl (w3) (fun c1 => ?_) (fun c1 => ?_)
  · replace h := ite_t h c1
    refine j_iloadn (k := 0) (D_LawReader_wardLine 25 rfl) rfl rfl ?_
    refine j_loc [2, 1, 0] rfl ?_
    exact s_LawReader_wardLine_L55 (w1) (w2) (w2) h
  · replace h := ite_f h c1
    refine j_aloadn (k := 2) (D_LawReader_wardLine 20 rfl) rfl rfl ?_
    refine j_getR rfl fa_LawReader_15 kd_21 lc_21 (by decide) rfl fx_21_0 (by decide) (D_LawReader_wardLine 21 rfl) ?_
    refine j_bipush (v := 40) (D_LawReader_wardLine 22 rfl) rfl ?_
    obtain ⟨q5, e5, h⟩ := Option.bind_eq_some_iff.mp h
    refine j_cVi (c_Text_takeNumber (wr_lit rfl) e5) rfl lk_LawReader_61 mok_Text_takeNumber kd_15 lc_15 rfl (by decide) rfl rfl (Nat.le_of_ble_eq_true rfl) (D_LawReader_wardLine 23 rfl) (fun w4 => ?_)
    refine j_goto (tgt := 55) (D_LawReader_wardLine 24 rfl) rfl ?_
    refine j_loc [2, 1, 0] rfl ?_
    exact s_LawReader_wardLine_L55 (w1) (w2) (w4) h
abbrev M_LawReader_dowerLine : MI := (⟨"InquestHall$LawReader", "dowerLine", "()V"⟩, prog_6_method_7_code, 2, none)
theorem cw_LawReader_dowerLine : Cond.code M_LawReader_dowerLine.1 M_LawReader_dowerLine.2.1 M_LawReader_dowerLine.2.2.1 M_LawReader_dowerLine.2.2.2 ∈ TS := mTS (List.mem_of_getElem? (i := 840) (by decide +kernel)) (by decide +kernel)
theorem ct_LawReader_102 : Cond.constant "InquestHall$LawReader" 102 (99999 : Int32) ∈ TS := mTS (List.mem_of_getElem? (i := 841) (by decide +kernel)) (by decide +kernel)
theorem fa_LawReader_103 : FA "InquestHall$LawReader" 103 11 4 false .int := ⟨_, _, _, _, ok_Law, by decide, mTS (List.mem_of_getElem? (i := 556) (by decide +kernel)) (by decide +kernel), rfl, rfl⟩
theorem lk_LawReader_106 : Cond.methodLink "InquestHall$LawReader" 106 M_Text_value.1 ∈ TS := mTS (List.mem_of_getElem? (i := 842) (by decide +kernel)) (by decide +kernel)
theorem lk_LawReader_34 : Cond.methodLink "InquestHall$LawReader" 34 M_Text_kind.1 ∈ TS := mTS (List.mem_of_getElem? (i := 785) (by decide +kernel)) (by decide +kernel)
theorem lk_LawReader_42 : Cond.methodLink "InquestHall$LawReader" 42 M_Text_fail.1 ∈ TS := mTS (List.mem_of_getElem? (i := 792) (by decide +kernel)) (by decide +kernel)
theorem fa_LawReader_109 : FA "InquestHall$LawReader" 109 11 5 false .int := ⟨_, _, _, _, ok_Law, by decide, mTS (List.mem_of_getElem? (i := 559) (by decide +kernel)) (by decide +kernel), rfl, rfl⟩
def tb_LawReader_dowerLine : List (Nat × Instr × Nat) := [(0, .aload_n 0, 1), (1, .getfield 19, 3), (4, .aload_n 0, 1), (5, .getfield 15, 3), (8, .ldc 102, 2), (10, .invokevirtual 61, 3), (13, .putfield 103, 3), (16, .aload_n 0, 1), (17, .getfield 15, 3), (20, .bipush 125, 2), (22, .invokevirtual 49, 3), (25, .aload_n 0, 1), (26, .getfield 15, 3), (29, .invokevirtual 106, 3), (32, .ifCond .eq 20, 3), (35, .aload_n 0, 1), (36, .getfield 15, 3), (39, .invokevirtual 106, 3), (42, .aload_n 0, 1), (43, .getfield 19, 3), (46, .getfield 103, 3), (49, .if_icmp .ge 7, 3), (52, .iconst 1, 1), (53, .goto 4, 3), (56, .iconst 0, 1), (57, .istore_n 1, 1), (58, .aload_n 0, 1), (59, .getfield 15, 3), (62, .getfield 30, 3), (65, .ifCond .ne 26, 3), (68, .aload_n 0, 1), (69, .getfield 15, 3), (72, .invokevirtual 34, 3), (75, .iconst 2, 1), (76, .if_icmp .ne 15, 3), (79, .iload_n 1, 1), (80, .ifCond .eq 11, 3), (83, .aload_n 0, 1), (84, .getfield 15, 3), (87, .iconst 2, 1), (88, .invokevirtual 42, 3), (91, .aload_n 0, 1), (92, .getfield 19, 3), (95, .aload_n 0, 1), (96, .getfield 15, 3), (99, .ldc 102, 2), (101, .invokevirtual 61, 3), (104, .putfield 109, 3), (107, .return_, 1)]
theorem D_LawReader_dowerLine (i : Nat) {pc len : Nat} {ins : Instr} (hi : tb_LawReader_dowerLine[i]? = some (pc, ins, len)) : decode M_LawReader_dowerLine.2.1 pc = .ok (ins, len) := dec_of (by decide +kernel) i hi
def f_LawReader_dowerLine_L91 (G : GS) : Option (GS) :=
  gd (lawC (gp G 21 1) = true) <|
  (f_Text_takeNumber G 99999).bind fun q1 =>
  wG (si q1.2 (gp G 21 1) 5 q1.1) fun G1 =>
  some G1
theorem s_LawReader_dowerLine_L91 {X : XT} {r : GS} : ∀ {G : GS}, f_LawReader_dowerLine_L91 G = some r → J X true 10 0 0 M_LawReader_dowerLine (Rv r) NC 0 0 91 [(0, rf X 21)] [] G := by
  intro G h
  unfold f_LawReader_dowerLine_L91 at h
  refine j_aloadn (k := 0) (D_LawReader_dowerLine 41 rfl) rfl rfl ?_
  have g1 := gd_c h
  replace h := gd_s h
  refine j_getR rfl fa_LawReader_19 kd_21 lc_21 (by decide) rfl (fun _ => rfl) (law_kd g1).2.2 (D_LawReader_dowerLine 42 rfl) ?_
  refine j_aloadn (k := 0) (D_LawReader_dowerLine 43 rfl) rfl rfl ?_
  refine j_getR rfl fa_LawReader_15 kd_21 lc_21 (by decide) rfl fx_21_0 (by decide) (D_LawReader_dowerLine 44 rfl) ?_
  refine j_ldc (v := 99999) rfl ct_LawReader_102 (by decide) (D_LawReader_dowerLine 45 rfl) ?_
  obtain ⟨q1, e1, h⟩ := Option.bind_eq_some_iff.mp h
  refine j_cVi (c_Text_takeNumber (wr_lit rfl) e1) rfl lk_LawReader_61 mok_Text_takeNumber kd_15 lc_15 rfl (by decide) rfl rfl (Nat.le_of_ble_eq_true rfl) (D_LawReader_dowerLine 46 rfl) (fun w1 => ?_)
  refine j_putI rfl fa_LawReader_109 (law_kd g1).1 (law_kd g1).2.1 (by decide) rfl (D_LawReader_dowerLine 47 rfl) ?_
  refine j_gen (fun G1 e2 => ?_)
  replace h := wG_at h e2
  exact j_vret (D_LawReader_dowerLine 48 rfl) rfl rfl rfl (leafV h)
def f_LawReader_dowerLine_L57 (G : GS) (s0 : Int) : Option (GS) :=
  if gi G 15 8 = 0 then
    (f_Text_kind G).bind fun q1 =>
    if q1 = 2 then
      if s0 = 0 then
        f_LawReader_dowerLine_L91 G
      else
        (f_Text_fail G 2).bind fun q2 =>
        f_LawReader_dowerLine_L91 q2
    else
      f_LawReader_dowerLine_L91 G
  else
    f_LawReader_dowerLine_L91 G
theorem s_LawReader_dowerLine_L57 {X : XT} {r : GS} : ∀ {G : GS} {s0 : Int}, wr s0 = s0 → f_LawReader_dowerLine_L57 G s0 = some r → J X true 10 0 0 M_LawReader_dowerLine (Rv r) NC 0 0 57 [(0, rf X 21)] [vi s0] G := by
  intro G s0 hs0 h
  unfold f_LawReader_dowerLine_L57 at h
  refine j_istoren (L' := [(1, vi s0), (0, rf X 21)]) (D_LawReader_dowerLine 25 rfl) rfl (hs0) (by decide) rfl ?_
  refine j_aloadn (k := 1) (D_LawReader_dowerLine 26 rfl) rfl rfl ?_
  refine j_getR rfl fa_LawReader_15 kd_21 lc_21 (by decide) rfl fx_21_0 (by decide) (D_LawReader_dowerLine 27 rfl) ?_
  refine j_getI rfl fa_LawReader_30 kd_15 lc_15 (by decide) rfl (D_LawReader_dowerLine 28 rfl) ?_
  refine j_if_ne (tgt := 91) (D_LawReader_dowerLine 29 rfl) rfl (wr_gi _ _ _) (fun c1 => ?_) (fun c1 => ?_)
  · replace h := ite_f h c1
    refine j_loc [1] rfl ?_
    exact s_LawReader_dowerLine_L91 h
  · replace h := ite_t h c1
    refine j_aloadn (k := 1) (D_LawReader_dowerLine 30 rfl) rfl rfl ?_
    refine j_getR rfl fa_LawReader_15 kd_21 lc_21 (by decide) rfl fx_21_0 (by decide) (D_LawReader_dowerLine 31 rfl) ?_
    obtain ⟨q1, e1, h⟩ := Option.bind_eq_some_iff.mp h
    refine j_cVi (c_Text_kind e1) rfl lk_LawReader_34 mok_Text_kind kd_15 lc_15 rfl (by decide) rfl rfl (Nat.le_of_ble_eq_true rfl) (D_LawReader_dowerLine 32 rfl) (fun w1 => ?_)
    refine j_iconst (v := 2) (D_LawReader_dowerLine 33 rfl) rfl ?_
    refine j_ic_ne (tgt := 91) (D_LawReader_dowerLine 34 rfl) rfl (w1) (wr_lit rfl) (fun c2 => ?_) (fun c2 => ?_)
    · replace h := ite_f h c2
      refine j_loc [1] rfl ?_
      exact s_LawReader_dowerLine_L91 h
    · replace h := ite_t h c2
      refine j_iloadn (k := 0) (D_LawReader_dowerLine 35 rfl) rfl rfl ?_
      refine j_if_eq (tgt := 91) (D_LawReader_dowerLine 36 rfl) rfl (hs0) (fun c3 => ?_) (fun c3 => ?_)
      · replace h := ite_t h c3
        refine j_loc [1] rfl ?_
        exact s_LawReader_dowerLine_L91 h
      · replace h := ite_f h c3
        refine j_aloadn (k := 1) (D_LawReader_dowerLine 37 rfl) rfl rfl ?_
        refine j_getR rfl fa_LawReader_15 kd_21 lc_21 (by decide) rfl fx_21_0 (by decide) (D_LawReader_dowerLine 38 rfl) ?_
        refine j_iconst (v := 2) (D_LawReader_dowerLine 39 rfl) rfl ?_
        obtain ⟨q2, e2, h⟩ := Option.bind_eq_some_iff.mp h
        refine j_cVv (c_Text_fail (wr_lit rfl) e2) rfl lk_LawReader_42 mok_Text_fail kd_15 lc_15 rfl (by decide) rfl rfl (Nat.le_of_ble_eq_true rfl) (D_LawReader_dowerLine 40 rfl) ?_
        refine j_loc [1] rfl ?_
        exact s_LawReader_dowerLine_L91 h
def f_LawReader_dowerLine_L52 (G : GS) : Option (GS) :=
  f_LawReader_dowerLine_L57 G 1
theorem s_LawReader_dowerLine_L52 {X : XT} {r : GS} : ∀ {G : GS}, f_LawReader_dowerLine_L52 G = some r → J X true 10 0 0 M_LawReader_dowerLine (Rv r) NC 0 0 52 [(0, rf X 21)] [] G := by
  intro G h
  unfold f_LawReader_dowerLine_L52 at h
  refine j_iconst (v := 1) (D_LawReader_dowerLine 22 rfl) rfl ?_
  refine j_goto (tgt := 57) (D_LawReader_dowerLine 23 rfl) rfl ?_
  refine j_loc [0] rfl ?_
  exact s_LawReader_dowerLine_L57 (wr_lit rfl) h
def f_LawReader_dowerLine (G : GS) : Option (GS) :=
  gd (lawC (gp G 21 1) = true) <|
  (f_Text_takeNumber G 99999).bind fun q1 =>
  wG (si q1.2 (gp G 21 1) 4 q1.1) fun G1 =>
  (f_Text_take G1 125).bind fun q2 =>
  (f_Text_value q2).bind fun q3 =>
  if q3 = 0 then
    f_LawReader_dowerLine_L52 q2
  else
    (f_Text_value q2).bind fun q4 =>
    gd (lawC (gp q2 21 1) = true) <|
    if gi q2 (gp q2 21 1) 4 ≤ q4 then
      f_LawReader_dowerLine_L57 q2 0
    else
      f_LawReader_dowerLine_L52 q2
theorem c_LawReader_dowerLine {X : XT} {G : GS} {r : GS} (h : f_LawReader_dowerLine G = some r) : Call X true 10 0 0 M_LawReader_dowerLine [rf X 21] NC G (Rv r) := by
  refine Call_of_J cw_LawReader_dowerLine (by decide +kernel) (Nat.le_of_ble_eq_true rfl) ?_
  unfold f_LawReader_dowerLine at h
  show J X true 10 0 0 M_LawReader_dowerLine (Rv r) NC 0 0 0 [(0, rf X 21)] [] G
  refine j_aloadn (k := 0) (D_LawReader_dowerLine 0 rfl) rfl rfl ?_
  have g1 := gd_c h
  replace h := gd_s h
  refine j_getR rfl fa_LawReader_19 kd_21 lc_21 (by decide) rfl (fun _ => rfl) (law_kd g1).2.2 (D_LawReader_dowerLine 1 rfl) ?_
  refine j_aloadn (k := 0) (D_LawReader_dowerLine 2 rfl) rfl rfl ?_
  refine j_getR rfl fa_LawReader_15 kd_21 lc_21 (by decide) rfl fx_21_0 (by decide) (D_LawReader_dowerLine 3 rfl) ?_
  refine j_ldc (v := 99999) rfl ct_LawReader_102 (by decide) (D_LawReader_dowerLine 4 rfl) ?_
  obtain ⟨q1, e1, h⟩ := Option.bind_eq_some_iff.mp h
  refine j_cVi (c_Text_takeNumber (wr_lit rfl) e1) rfl lk_LawReader_61 mok_Text_takeNumber kd_15 lc_15 rfl (by decide) rfl rfl (Nat.le_of_ble_eq_true rfl) (D_LawReader_dowerLine 5 rfl) (fun w1 => ?_)
  refine j_putI rfl fa_LawReader_103 (law_kd g1).1 (law_kd g1).2.1 (by decide) rfl (D_LawReader_dowerLine 6 rfl) ?_
  refine j_gen (fun G1 e2 => ?_)
  replace h := wG_at h e2
  refine j_aloadn (k := 0) (D_LawReader_dowerLine 7 rfl) rfl rfl ?_
  refine j_getR rfl fa_LawReader_15 kd_21 lc_21 (by decide) rfl fx_21_0 (by decide) (D_LawReader_dowerLine 8 rfl) ?_
  refine j_bipush (v := 125) (D_LawReader_dowerLine 9 rfl) rfl ?_
  obtain ⟨q2, e3, h⟩ := Option.bind_eq_some_iff.mp h
  refine j_cVv (c_Text_take (wr_lit rfl) e3) rfl lk_LawReader_49 mok_Text_take kd_15 lc_15 rfl (by decide) rfl rfl (Nat.le_of_ble_eq_true rfl) (D_LawReader_dowerLine 10 rfl) ?_
  refine j_aloadn (k := 0) (D_LawReader_dowerLine 11 rfl) rfl rfl ?_
  refine j_getR rfl fa_LawReader_15 kd_21 lc_21 (by decide) rfl fx_21_0 (by decide) (D_LawReader_dowerLine 12 rfl) ?_
  obtain ⟨q3, e4, h⟩ := Option.bind_eq_some_iff.mp h
  refine j_cVi (c_Text_value e4) rfl lk_LawReader_106 mok_Text_value kd_15 lc_15 rfl (by decide) rfl rfl (Nat.le_of_ble_eq_true rfl) (D_LawReader_dowerLine 13 rfl) (fun w2 => ?_)
  refine j_if_eq (tgt := 52) (D_LawReader_dowerLine 14 rfl) rfl (w2) (fun c1 => ?_) (fun c1 => ?_)
  · replace h := ite_t h c1
    refine j_loc [0] rfl ?_
    exact s_LawReader_dowerLine_L52 h
  · replace h := ite_f h c1
    refine j_aloadn (k := 0) (D_LawReader_dowerLine 15 rfl) rfl rfl ?_
    refine j_getR rfl fa_LawReader_15 kd_21 lc_21 (by decide) rfl fx_21_0 (by decide) (D_LawReader_dowerLine 16 rfl) ?_
    obtain ⟨q4, e5, h⟩ := Option.bind_eq_some_iff.mp h
    refine j_cVi (c_Text_value e5) rfl lk_LawReader_106 mok_Text_value kd_15 lc_15 rfl (by decide) rfl rfl (Nat.le_of_ble_eq_true rfl) (D_LawReader_dowerLine 17 rfl) (fun w3 => ?_)
    refine j_aloadn (k := 0) (D_LawReader_dowerLine 18 rfl) rfl rfl ?_
    have g2 := gd_c h
    replace h := gd_s h
    refine j_getR rfl fa_LawReader_19 kd_21 lc_21 (by decide) rfl (fun _ => rfl) (law_kd g2).2.2 (D_LawReader_dowerLine 19 rfl) ?_
    refine j_getI rfl fa_LawReader_103 (law_kd g2).1 (law_kd g2).2.1 (by decide) rfl (D_LawReader_dowerLine 20 rfl) ?_
    refine j_ic_ge (tgt := 56) (D_LawReader_dowerLine 21 rfl) rfl (w3) (wr_gi _ _ _) (fun c2 => ?_) (fun c2 => ?_)
    · replace h := ite_t h c2
      refine j_iconst (v := 0) (D_LawReader_dowerLine 24 rfl) rfl ?_
      refine j_loc [0] rfl ?_
      exact s_LawReader_dowerLine_L57 (wr_lit rfl) h
    · replace h := ite_f h c2
      refine j_loc [0] rfl ?_
      exact s_LawReader_dowerLine_L52 h
abbrev M_LawReader_isAsked : MI := (⟨"InquestHall$LawReader", "isAsked", "(I)Z"⟩, prog_6_method_12_code, 1, (some .boolean))
theorem cw_LawReader_isAsked : Cond.code M_LawReader_isAsked.1 M_LawReader_isAsked.2.1 M_LawReader_isAsked.2.2.1 M_LawReader_isAsked.2.2.2 ∈ TS := mTS (List.mem_of_getElem? (i := 857) (by decide +kernel)) (by decide +kernel)
def tb_LawReader_isAsked : List (Nat × Instr × Nat) := [(0, .iload_n 0, 1), (1, .bipush 100, 2), (3, .if_icmp .lt 13, 3), (6, .iload_n 0, 1), (7, .bipush 107, 2), (9, .if_icmp .ge 7, 3), (12, .iconst 1, 1), (13, .goto 4, 3), (16, .iconst 0, 1), (17, .ireturn, 1)]
theorem D_LawReader_isAsked (i : Nat) {pc len : Nat} {ins : Instr} (hi : tb_LawReader_isAsked[i]? = some (pc, ins, len)) : decode M_LawReader_isAsked.2.1 pc = .ok (ins, len) := dec_of (by decide +kernel) i hi
def f_LawReader_isAsked (G : GS) (a0 : Int) : Option (Int) :=
  if a0 < 100 then
    some 0
  else
    if 107 ≤ a0 then
      some 0
    else
      some 1
theorem c_LawReader_isAsked {X : XT} {G : GS} {a0 : Int} {r : Int} (ha0 : wr a0 = a0) (h : f_LawReader_isAsked G a0 = some r) : Call X true 6 0 0 M_LawReader_isAsked [vi a0] NC G (Rz r G) := by
  refine Call_of_J cw_LawReader_isAsked (by decide +kernel) (Nat.le_of_ble_eq_true rfl) ?_
  unfold f_LawReader_isAsked at h
  show J X true 6 0 0 M_LawReader_isAsked (Rz r G) NC 0 0 0 [(0, vi a0)] [] G
  refine j_iloadn (k := 0) (D_LawReader_isAsked 0 rfl) rfl rfl ?_
  refine j_bipush (v := 100) (D_LawReader_isAsked 1 rfl) rfl ?_
  refine j_ic_lt (tgt := 16) (D_LawReader_isAsked 2 rfl) rfl (ha0) (wr_lit rfl) (fun c1 => ?_) (fun c1 => ?_)
  · replace h := ite_t h c1
    refine j_iconst (v := 0) (D_LawReader_isAsked 8 rfl) rfl ?_
    exact j_zret (D_LawReader_isAsked 9 rfl) rfl (wr_lit rfl) (nz_01 (by decide)) rfl rfl (leafZo h (wr_n (wr_lit rfl)) (by decide))
  · replace h := ite_f h c1
    refine j_iloadn (k := 0) (D_LawReader_isAsked 3 rfl) rfl rfl ?_
    refine j_bipush (v := 107) (D_LawReader_isAsked 4 rfl) rfl ?_
    refine j_ic_ge (tgt := 16) (D_LawReader_isAsked 5 rfl) rfl (ha0) (wr_lit rfl) (fun c2 => ?_) (fun c2 => ?_)
    · replace h := ite_t h c2
      refine j_iconst (v := 0) (D_LawReader_isAsked 8 rfl) rfl ?_
      exact j_zret (D_LawReader_isAsked 9 rfl) rfl (wr_lit rfl) (nz_01 (by decide)) rfl rfl (leafZo h (wr_n (wr_lit rfl)) (by decide))
    · replace h := ite_f h c2
      refine j_iconst (v := 1) (D_LawReader_isAsked 6 rfl) rfl ?_
      refine j_goto (tgt := 17) (D_LawReader_isAsked 7 rfl) rfl ?_
      exact j_zret (D_LawReader_isAsked 9 rfl) rfl (wr_lit rfl) (nz_01 (by decide)) rfl rfl (leafZo h (wr_n (wr_lit rfl)) (by decide))
abbrev M_Law_put : MI := (⟨"InquestHall$Law", "put", "(I)V"⟩, prog_5_method_3_code, 2, none)
theorem cw_Law_put : Cond.code M_Law_put.1 M_Law_put.2.1 M_Law_put.2.2.1 M_Law_put.2.2.2 ∈ TS := mTS (List.mem_of_getElem? (i := 861) (by decide +kernel)) (by decide +kernel)
theorem fa_Law_26 : FA "InquestHall$Law" 26 11 8 true (.array .int) := ⟨_, _, _, _, ok_Law, by decide, mTS (List.mem_of_getElem? (i := 567) (by decide +kernel)) (by decide +kernel), rfl, rfl⟩
def tb_Law_put : List (Nat × Instr × Nat) := [(0, .aload_n 0, 1), (1, .getfield 51, 3), (4, .aload_n 0, 1), (5, .getfield 26, 3), (8, .arraylength, 1), (9, .if_icmp .ge 23, 3), (12, .aload_n 0, 1), (13, .getfield 26, 3), (16, .aload_n 0, 1), (17, .getfield 51, 3), (20, .iload_n 1, 1), (21, .iastore, 1), (22, .aload_n 0, 1), (23, .dup, 1), (24, .getfield 51, 3), (27, .iconst 1, 1), (28, .iadd, 1), (29, .putfield 51, 3), (32, .return_, 1)]
theorem D_Law_put (i : Nat) {pc len : Nat} {ins : Instr} (hi : tb_Law_put[i]? = some (pc, ins, len)) : decode M_Law_put.2.1 pc = .ok (ins, len) := dec_of (by decide +kernel) i hi
def f_Law_put (G : GS) (c : Nat) (a1 : Int) : Option (GS) :=
  if 800 ≤ gi G c 9 then
    some G
  else
    gd (0 ≤ gi G c 9 ∧ gi G c 9 < 800) <|
    wG (si G (c + 5) (gi G c 9).toNat a1) fun G1 =>
    wG (si G1 c 9 ((gi G1 c 9) + 1)) fun G2 =>
    some G2
theorem c_Law_put {X : XT} {G : GS} {c : Nat} {a1 : Int} {r : GS} (hc : lawC c = true) (ha1 : wr a1 = a1) (h : f_Law_put G c a1 = some r) : Call X true 6 0 0 M_Law_put [rf X c, vi a1] NC G (Rv r) := by
  refine Call_of_J cw_Law_put (by decide +kernel) (Nat.le_of_ble_eq_true rfl) ?_
  unfold f_Law_put at h
  show J X true 6 0 0 M_Law_put (Rv r) NC 0 0 0 [(0, rf X c), (1, vi a1)] [] G
  refine j_aloadn (k := 0) (D_Law_put 0 rfl) rfl rfl ?_
  refine j_getI rfl fa_Law_51 (law_kd hc).1 (law_kd hc).2.1 (by decide) rfl (D_Law_put 1 rfl) ?_
  refine j_aloadn (k := 0) (D_Law_put 2 rfl) rfl rfl ?_
  refine j_getR rfl fa_Law_26 (law_kd hc).1 (law_kd hc).2.1 (by decide) rfl (fun w => law_fx5 w hc) (by omega) (D_Law_put 3 rfl) ?_
  refine j_alenI (NI := 800) (D_Law_put 4 rfl) (law_kd5 hc).1 (law_kd5 hc).2 rfl ?_
  refine j_ic_ge (tgt := 32) (D_Law_put 5 rfl) rfl (wr_gi _ _ _) (wr_lit rfl) (fun c1 => ?_) (fun c1 => ?_)
  · replace h := ite_t h c1
    exact j_vret (D_Law_put 18 rfl) rfl rfl rfl (leafV h)
  · replace h := ite_f h c1
    refine j_aloadn (k := 0) (D_Law_put 6 rfl) rfl rfl ?_
    refine j_getR rfl fa_Law_26 (law_kd hc).1 (law_kd hc).2.1 (by decide) rfl (fun w => law_fx5 w hc) (by omega) (D_Law_put 7 rfl) ?_
    refine j_aloadn (k := 0) (D_Law_put 8 rfl) rfl rfl ?_
    refine j_getI rfl fa_Law_51 (law_kd hc).1 (law_kd hc).2.1 (by decide) rfl (D_Law_put 9 rfl) ?_
    refine j_iloadn (k := 1) (D_Law_put 10 rfl) rfl rfl ?_
    have g1 := gd_c h
    replace h := gd_s h
    refine j_iast (NI := 800) (D_Law_put 11 rfl) (law_kd5 hc).1 (law_kd5 hc).2 (wr_gi _ _ _) rfl g1.1 g1.2 ?_
    refine j_gen (fun G1 e1 => ?_)
    replace h := wG_at h e1
    refine j_aloadn (k := 0) (D_Law_put 12 rfl) rfl rfl ?_
    refine j_dup (D_Law_put 13 rfl) rfl ?_
    refine j_getI rfl fa_Law_51 (law_kd hc).1 (law_kd hc).2.1 (by decide) rfl (D_Law_put 14 rfl) ?_
    refine j_iconst (v := 1) (D_Law_put 15 rfl) rfl ?_
    refine j_iadd (D_Law_put 16 rfl) ?_
    refine j_putI rfl fa_Law_51 (law_kd hc).1 (law_kd hc).2.1 (by decide) rfl (D_Law_put 17 rfl) ?_
    refine j_gen (fun G2 e2 => ?_)
    replace h := wG_at h e2
    exact j_vret (D_Law_put 18 rfl) rfl rfl rfl (leafV h)
abbrev M_LawReader_goBehind : MI := (⟨"InquestHall$LawReader", "goBehind", "(I)V"⟩, prog_6_method_16_code, 2, none)
theorem cw_LawReader_goBehind : Cond.code M_LawReader_goBehind.1 M_LawReader_goBehind.2.1 M_LawReader_goBehind.2.2.1 M_LawReader_goBehind.2.2.2 ∈ TS := mTS (List.mem_of_getElem? (i := 865) (by decide +kernel)) (by decide +kernel)
theorem fa_LawReader_126 : FA "InquestHall$LawReader" 126 4 4 false .int := ⟨_, _, _, _, ok_LawReader, by decide, mTS (List.mem_of_getElem? (i := 339) (by decide +kernel)) (by decide +kernel), rfl, rfl⟩
theorem lk_LawReader_171 : Cond.methodLink "InquestHall$LawReader" 171 M_Text_step.1 ∈ TS := mTS (List.mem_of_getElem? (i := 866) (by decide +kernel)) (by decide +kernel)
def tb_LawReader_goBehind : List (Nat × Instr × Nat) := [(0, .aload_n 0, 1), (1, .getfield 15, 3), (4, .getfield 30, 3), (7, .ifCond .ne 15, 3), (10, .aload_n 0, 1), (11, .iload_n 1, 1), (12, .putfield 126, 3), (15, .aload_n 0, 1), (16, .getfield 15, 3), (19, .invokevirtual 171, 3), (22, .return_, 1)]
theorem D_LawReader_goBehind (i : Nat) {pc len : Nat} {ins : Instr} (hi : tb_LawReader_goBehind[i]? = some (pc, ins, len)) : decode M_LawReader_goBehind.2.1 pc = .ok (ins, len) := dec_of (by decide +kernel) i hi
def f_LawReader_goBehind (G : GS) (a1 : Int) : Option (GS) :=
  if gi G 15 8 = 0 then
    wG (si G 21 4 a1) fun G1 =>
    (f_Text_step G1).bind fun q1 =>
    some q1
  else
    some G
theorem c_LawReader_goBehind {X : XT} {G : GS} {a1 : Int} {r : GS} (ha1 : wr a1 = a1) (h : f_LawReader_goBehind G a1 = some r) : Call X true 7 0 0 M_LawReader_goBehind [rf X 21, vi a1] NC G (Rv r) := by
  refine Call_of_J cw_LawReader_goBehind (by decide +kernel) (Nat.le_of_ble_eq_true rfl) ?_
  unfold f_LawReader_goBehind at h
  show J X true 7 0 0 M_LawReader_goBehind (Rv r) NC 0 0 0 [(0, rf X 21), (1, vi a1)] [] G
  refine j_aloadn (k := 0) (D_LawReader_goBehind 0 rfl) rfl rfl ?_
  refine j_getR rfl fa_LawReader_15 kd_21 lc_21 (by decide) rfl fx_21_0 (by decide) (D_LawReader_goBehind 1 rfl) ?_
  refine j_getI rfl fa_LawReader_30 kd_15 lc_15 (by decide) rfl (D_LawReader_goBehind 2 rfl) ?_
  refine j_if_ne (tgt := 22) (D_LawReader_goBehind 3 rfl) rfl (wr_gi _ _ _) (fun c1 => ?_) (fun c1 => ?_)
  · replace h := ite_f h c1
    exact j_vret (D_LawReader_goBehind 10 rfl) rfl rfl rfl (leafV h)
  · replace h := ite_t h c1
    refine j_aloadn (k := 0) (D_LawReader_goBehind 4 rfl) rfl rfl ?_
    refine j_iloadn (k := 1) (D_LawReader_goBehind 5 rfl) rfl rfl ?_
    refine j_putI rfl fa_LawReader_126 kd_21 lc_21 (by decide) rfl (D_LawReader_goBehind 6 rfl) ?_
    refine j_gen (fun G1 e1 => ?_)
    replace h := wG_at h e1
    refine j_aloadn (k := 0) (D_LawReader_goBehind 7 rfl) rfl rfl ?_
    refine j_getR rfl fa_LawReader_15 kd_21 lc_21 (by decide) rfl fx_21_0 (by decide) (D_LawReader_goBehind 8 rfl) ?_
    obtain ⟨q1, e2, h⟩ := Option.bind_eq_some_iff.mp h
    refine j_cVv (c_Text_step e2) rfl lk_LawReader_171 mok_Text_step kd_15 lc_15 rfl (by decide) rfl rfl (Nat.le_of_ble_eq_true rfl) (D_LawReader_goBehind 9 rfl) ?_
    exact j_vret (D_LawReader_goBehind 10 rfl) rfl rfl rfl (leafV h)
abbrev M_LawReader_mayNegate : MI := (⟨"InquestHall$LawReader", "mayNegate", "()Z"⟩, prog_6_method_13_code, 1, (some .boolean))
theorem cw_LawReader_mayNegate : Cond.code M_LawReader_mayNegate.1 M_LawReader_mayNegate.2.1 M_LawReader_mayNegate.2.2.1 M_LawReader_mayNegate.2.2.2 ∈ TS := mTS (List.mem_of_getElem? (i := 870) (by decide +kernel)) (by decide +kernel)
theorem fa_LawReader_119 : FA "InquestHall$LawReader" 119 4 7 false .boolean := ⟨_, _, _, _, ok_LawReader, by decide, mTS (List.mem_of_getElem? (i := 342) (by decide +kernel)) (by decide +kernel), rfl, rfl⟩
def tb_LawReader_mayNegate : List (Nat × Instr × Nat) := [(0, .aload_n 0, 1), (1, .getfield 119, 3), (4, .ifCond .eq 43, 3), (7, .aload_n 0, 1), (8, .getfield 126, 3), (11, .ifCond .eq 32, 3), (14, .aload_n 0, 1), (15, .getfield 126, 3), (18, .sipush 129, 3), (21, .if_icmp .eq 22, 3), (24, .aload_n 0, 1), (25, .getfield 126, 3), (28, .sipush 128, 3), (31, .if_icmp .eq 12, 3), (34, .aload_n 0, 1), (35, .getfield 126, 3), (38, .bipush 127, 2), (40, .if_icmp .ne 7, 3), (43, .iconst 1, 1), (44, .goto 4, 3), (47, .iconst 0, 1), (48, .ireturn, 1)]
theorem D_LawReader_mayNegate (i : Nat) {pc len : Nat} {ins : Instr} (hi : tb_LawReader_mayNegate[i]? = some (pc, ins, len)) : decode M_LawReader_mayNegate.2.1 pc = .ok (ins, len) := dec_of (by decide +kernel) i hi
def f_LawReader_mayNegate (G : GS) : Option (Int) :=
  if gi G 21 7 = 0 then
    some 0
  else
    if gi G 21 4 = 0 then
      some 1
    else
      if gi G 21 4 = 129 then
        some 1
      else
        if gi G 21 4 = 128 then
          some 1
        else
          if gi G 21 4 = 127 then
            some 1
          else
            some 0
theorem c_LawReader_mayNegate {X : XT} {G : GS} {r : Int} (h : f_LawReader_mayNegate G = some r) : Call X true 6 0 0 M_LawReader_mayNegate [rf X 21] NC G (Rz r G) := by
  refine Call_of_J cw_LawReader_mayNegate (by decide +kernel) (Nat.le_of_ble_eq_true rfl) ?_
  unfold f_LawReader_mayNegate at h
  show J X true 6 0 0 M_LawReader_mayNegate (Rz r G) NC 0 0 0 [(0, rf X 21)] [] G
  refine j_aloadn (k := 0) (D_LawReader_mayNegate 0 rfl) rfl rfl ?_
  refine j_getI rfl fa_LawReader_119 kd_21 lc_21 (by decide) rfl (D_LawReader_mayNegate 1 rfl) ?_
  refine j_if_eq (tgt := 47) (D_LawReader_mayNegate 2 rfl) rfl (wr_gi _ _ _) (fun c1 => ?_) (fun c1 => ?_)
  · replace h := ite_t h c1
    refine j_iconst (v := 0) (D_LawReader_mayNegate 20 rfl) rfl ?_
    exact j_zret (D_LawReader_mayNegate 21 rfl) rfl (wr_lit rfl) (nz_01 (by decide)) rfl rfl (leafZo h (wr_n (wr_lit rfl)) (by decide))
  · replace h := ite_f h c1
    refine j_aloadn (k := 0) (D_LawReader_mayNegate 3 rfl) rfl rfl ?_
    refine j_getI rfl fa_LawReader_126 kd_21 lc_21 (by decide) rfl (D_LawReader_mayNegate 4 rfl) ?_
    refine j_if_eq (tgt := 43) (D_LawReader_mayNegate 5 rfl) rfl (wr_gi _ _ _) (fun c2 => ?_) (fun c2 => ?_)
    · replace h := ite_t h c2
      refine j_iconst (v := 1) (D_LawReader_mayNegate 18 rfl) rfl ?_
      refine j_goto (tgt := 48) (D_LawReader_mayNegate 19 rfl) rfl ?_
      exact j_zret (D_LawReader_mayNegate 21 rfl) rfl (wr_lit rfl) (nz_01 (by decide)) rfl rfl (leafZo h (wr_n (wr_lit rfl)) (by decide))
    · replace h := ite_f h c2
      refine j_aloadn (k := 0) (D_LawReader_mayNegate 6 rfl) rfl rfl ?_
      refine j_getI rfl fa_LawReader_126 kd_21 lc_21 (by decide) rfl (D_LawReader_mayNegate 7 rfl) ?_
      refine j_sipush (v := 129) (D_LawReader_mayNegate 8 rfl) rfl ?_
      refine j_ic_eq (tgt := 43) (D_LawReader_mayNegate 9 rfl) rfl (wr_gi _ _ _) (wr_lit rfl) (fun c3 => ?_) (fun c3 => ?_)
      · replace h := ite_t h c3
        refine j_iconst (v := 1) (D_LawReader_mayNegate 18 rfl) rfl ?_
        refine j_goto (tgt := 48) (D_LawReader_mayNegate 19 rfl) rfl ?_
        exact j_zret (D_LawReader_mayNegate 21 rfl) rfl (wr_lit rfl) (nz_01 (by decide)) rfl rfl (leafZo h (wr_n (wr_lit rfl)) (by decide))
      · replace h := ite_f h c3
        refine j_aloadn (k := 0) (D_LawReader_mayNegate 10 rfl) rfl rfl ?_
        refine j_getI rfl fa_LawReader_126 kd_21 lc_21 (by decide) rfl (D_LawReader_mayNegate 11 rfl) ?_
        refine j_sipush (v := 128) (D_LawReader_mayNegate 12 rfl) rfl ?_
        refine j_ic_eq (tgt := 43) (D_LawReader_mayNegate 13 rfl) rfl (wr_gi _ _ _) (wr_lit rfl) (fun c4 => ?_) (fun c4 => ?_)
        · replace h := ite_t h c4
          refine j_iconst (v := 1) (D_LawReader_mayNegate 18 rfl) rfl ?_
          refine j_goto (tgt := 48) (D_LawReader_mayNegate 19 rfl) rfl ?_
          exact j_zret (D_LawReader_mayNegate 21 rfl) rfl (wr_lit rfl) (nz_01 (by decide)) rfl rfl (leafZo h (wr_n (wr_lit rfl)) (by decide))
        · replace h := ite_f h c4
          refine j_aloadn (k := 0) (D_LawReader_mayNegate 14 rfl) rfl rfl ?_
          refine j_getI rfl fa_LawReader_126 kd_21 lc_21 (by decide) rfl (D_LawReader_mayNegate 15 rfl) ?_
          refine j_bipush (v := 127) (D_LawReader_mayNegate 16 rfl) rfl ?_
          refine j_ic_ne (tgt := 47) (D_LawReader_mayNegate 17 rfl) rfl (wr_gi _ _ _) (wr_lit rfl) (fun c5 => ?_) (fun c5 => ?_)
          · replace h := ite_f h c5
            refine j_iconst (v := 0) (D_LawReader_mayNegate 20 rfl) rfl ?_
            exact j_zret (D_LawReader_mayNegate 21 rfl) rfl (wr_lit rfl) (nz_01 (by decide)) rfl rfl (leafZo h (wr_n (wr_lit rfl)) (by decide))
          · replace h := ite_t h c5
            refine j_iconst (v := 1) (D_LawReader_mayNegate 18 rfl) rfl ?_
            refine j_goto (tgt := 48) (D_LawReader_mayNegate 19 rfl) rfl ?_
            exact j_zret (D_LawReader_mayNegate 21 rfl) rfl (wr_lit rfl) (nz_01 (by decide)) rfl rfl (leafZo h (wr_n (wr_lit rfl)) (by decide))
abbrev M_LawReader_hold : MI := (⟨"InquestHall$LawReader", "hold", "(I)V"⟩, prog_6_method_18_code, 2, none)
theorem cw_LawReader_hold : Cond.code M_LawReader_hold.1 M_LawReader_hold.2.1 M_LawReader_hold.2.2.1 M_LawReader_hold.2.2.2 ∈ TS := mTS (List.mem_of_getElem? (i := 874) (by decide +kernel)) (by decide +kernel)
theorem fa_LawReader_123 : FA "InquestHall$LawReader" 123 4 3 false .int := ⟨_, _, _, _, ok_LawReader, by decide, mTS (List.mem_of_getElem? (i := 338) (by decide +kernel)) (by decide +kernel), rfl, rfl⟩
theorem fa_LawReader_9 : FA "InquestHall$LawReader" 9 4 2 true (.array .int) := ⟨_, _, _, _, ok_LawReader, by decide, mTS (List.mem_of_getElem? (i := 337) (by decide +kernel)) (by decide +kernel), rfl, rfl⟩
theorem fx_21_2 {G : GS} (w : WF true NC G) : G.2.2 21 2 = 22 := w.2 rfl (21, 2, 22) (by decide)
theorem kd_22 : kd 22 = (0, 64) := rfl
theorem lc_22 : 22 < NC := by decide
def tb_LawReader_hold : List (Nat × Instr × Nat) := [(0, .aload_n 0, 1), (1, .getfield 123, 3), (4, .aload_n 0, 1), (5, .getfield 9, 3), (8, .arraylength, 1), (9, .if_icmp .ge 23, 3), (12, .aload_n 0, 1), (13, .getfield 9, 3), (16, .aload_n 0, 1), (17, .getfield 123, 3), (20, .iload_n 1, 1), (21, .iastore, 1), (22, .aload_n 0, 1), (23, .dup, 1), (24, .getfield 123, 3), (27, .iconst 1, 1), (28, .iadd, 1), (29, .putfield 123, 3), (32, .return_, 1)]
theorem D_LawReader_hold (i : Nat) {pc len : Nat} {ins : Instr} (hi : tb_LawReader_hold[i]? = some (pc, ins, len)) : decode M_LawReader_hold.2.1 pc = .ok (ins, len) := dec_of (by decide +kernel) i hi
def f_LawReader_hold (G : GS) (a1 : Int) : Option (GS) :=
  if 64 ≤ gi G 21 3 then
    some G
  else
    gd (0 ≤ gi G 21 3 ∧ gi G 21 3 < 64) <|
    wG (si G 22 (gi G 21 3).toNat a1) fun G1 =>
    wG (si G1 21 3 ((gi G1 21 3) + 1)) fun G2 =>
    some G2
theorem c_LawReader_hold {X : XT} {G : GS} {a1 : Int} {r : GS} (ha1 : wr a1 = a1) (h : f_LawReader_hold G a1 = some r) : Call X true 6 0 0 M_LawReader_hold [rf X 21, vi a1] NC G (Rv r) := by
  refine Call_of_J cw_LawReader_hold (by decide +kernel) (Nat.le_of_ble_eq_true rfl) ?_
  unfold f_LawReader_hold at h
  show J X true 6 0 0 M_LawReader_hold (Rv r) NC 0 0 0 [(0, rf X 21), (1, vi a1)] [] G
  refine j_aloadn (k := 0) (D_LawReader_hold 0 rfl) rfl rfl ?_
  refine j_getI rfl fa_LawReader_123 kd_21 lc_21 (by decide) rfl (D_LawReader_hold 1 rfl) ?_
  refine j_aloadn (k := 0) (D_LawReader_hold 2 rfl) rfl rfl ?_
  refine j_getR rfl fa_LawReader_9 kd_21 lc_21 (by decide) rfl fx_21_2 (by decide) (D_LawReader_hold 3 rfl) ?_
  refine j_alenI (NI := 64) (D_LawReader_hold 4 rfl) kd_22 lc_22 rfl ?_
  refine j_ic_ge (tgt := 32) (D_LawReader_hold 5 rfl) rfl (wr_gi _ _ _) (wr_lit rfl) (fun c1 => ?_) (fun c1 => ?_)
  · replace h := ite_t h c1
    exact j_vret (D_LawReader_hold 18 rfl) rfl rfl rfl (leafV h)
  · replace h := ite_f h c1
    refine j_aloadn (k := 0) (D_LawReader_hold 6 rfl) rfl rfl ?_
    refine j_getR rfl fa_LawReader_9 kd_21 lc_21 (by decide) rfl fx_21_2 (by decide) (D_LawReader_hold 7 rfl) ?_
    refine j_aloadn (k := 0) (D_LawReader_hold 8 rfl) rfl rfl ?_
    refine j_getI rfl fa_LawReader_123 kd_21 lc_21 (by decide) rfl (D_LawReader_hold 9 rfl) ?_
    refine j_iloadn (k := 1) (D_LawReader_hold 10 rfl) rfl rfl ?_
    have g1 := gd_c h
    replace h := gd_s h
    refine j_iast (NI := 64) (D_LawReader_hold 11 rfl) kd_22 lc_22 (wr_gi _ _ _) rfl g1.1 g1.2 ?_
    refine j_gen (fun G1 e1 => ?_)
    replace h := wG_at h e1
    refine j_aloadn (k := 0) (D_LawReader_hold 12 rfl) rfl rfl ?_
    refine j_dup (D_LawReader_hold 13 rfl) rfl ?_
    refine j_getI rfl fa_LawReader_123 kd_21 lc_21 (by decide) rfl (D_LawReader_hold 14 rfl) ?_
    refine j_iconst (v := 1) (D_LawReader_hold 15 rfl) rfl ?_
    refine j_iadd (D_LawReader_hold 16 rfl) ?_
    refine j_putI rfl fa_LawReader_123 kd_21 lc_21 (by decide) rfl (D_LawReader_hold 17 rfl) ?_
    refine j_gen (fun G2 e2 => ?_)
    replace h := wG_at h e2
    exact j_vret (D_LawReader_hold 18 rfl) rfl rfl rfl (leafV h)
abbrev M_LawReader_operand : MI := (⟨"InquestHall$LawReader", "operand", "(I)Z"⟩, prog_6_method_11_code, 3, (some .boolean))
theorem cw_LawReader_operand : Cond.code M_LawReader_operand.1 M_LawReader_operand.2.1 M_LawReader_operand.2.2.1 M_LawReader_operand.2.2.2 ∈ TS := mTS (List.mem_of_getElem? (i := 854) (by decide +kernel)) (by decide +kernel)
theorem lk_LawReader_153 : Cond.methodLink "InquestHall$LawReader" 153 M_LawReader_isAsked.1 ∈ TS := mTS (List.mem_of_getElem? (i := 855) (by decide +kernel)) (by decide +kernel)
theorem sok_LawReader_isAsked : SOK M_LawReader_isAsked 1 := ⟨mTS (List.mem_of_getElem? (i := 856) (by decide +kernel)) (by decide +kernel), mTS (List.mem_of_getElem? (i := 130) (by decide +kernel)) (by decide +kernel), cw_LawReader_isAsked, ⟨by decide, by decide, by decide +kernel⟩, by decide +kernel, by decide⟩
theorem lk_LawReader_159 : Cond.methodLink "InquestHall$LawReader" 159 M_LawReader_mayNegate.1 ∈ TS := mTS (List.mem_of_getElem? (i := 867) (by decide +kernel)) (by decide +kernel)
theorem mok_LawReader_mayNegate : MOK M_LawReader_mayNegate 0 := ⟨mTS (List.mem_of_getElem? (i := 869) (by decide +kernel)) (by decide +kernel), mTS (List.mem_of_getElem? (i := 15) (by decide +kernel)) (by decide +kernel), mTS (List.mem_of_getElem? (i := 130) (by decide +kernel)) (by decide +kernel), cw_LawReader_mayNegate, ⟨by decide, by decide, by decide +kernel⟩, by decide +kernel, by decide⟩
theorem fa_LawReader_129 : FA "InquestHall$LawReader" 129 4 5 false .int := ⟨_, _, _, _, ok_LawReader, by decide, mTS (List.mem_of_getElem? (i := 340) (by decide +kernel)) (by decide +kernel), rfl, rfl⟩
theorem fa_LawReader_132 : FA "InquestHall$LawReader" 132 4 6 false .int := ⟨_, _, _, _, ok_LawReader, by decide, mTS (List.mem_of_getElem? (i := 341) (by decide +kernel)) (by decide +kernel), rfl, rfl⟩
theorem lk_LawReader_116 : Cond.methodLink "InquestHall$LawReader" 116 M_Law_put.1 ∈ TS := mTS (List.mem_of_getElem? (i := 858) (by decide +kernel)) (by decide +kernel)
theorem mok_Law_put : MOK M_Law_put 1 := ⟨mTS (List.mem_of_getElem? (i := 859) (by decide +kernel)) (by decide +kernel), mTS (List.mem_of_getElem? (i := 860) (by decide +kernel)) (by decide +kernel), mTS (List.mem_of_getElem? (i := 138) (by decide +kernel)) (by decide +kernel), cw_Law_put, ⟨by decide, by decide, by decide +kernel⟩, by decide +kernel, by decide⟩
theorem lk_LawReader_156 : Cond.methodLink "InquestHall$LawReader" 156 M_LawReader_goBehind.1 ∈ TS := mTS (List.mem_of_getElem? (i := 862) (by decide +kernel)) (by decide +kernel)
theorem mok_LawReader_goBehind : MOK M_LawReader_goBehind 1 := ⟨mTS (List.mem_of_getElem? (i := 864) (by decide +kernel)) (by decide +kernel), mTS (List.mem_of_getElem? (i := 14) (by decide +kernel)) (by decide +kernel), mTS (List.mem_of_getElem? (i := 130) (by decide +kernel)) (by decide +kernel), cw_LawReader_goBehind, ⟨by decide, by decide, by decide +kernel⟩, by decide +kernel, by decide⟩
theorem lk_LawReader_163 : Cond.methodLink "InquestHall$LawReader" 163 M_LawReader_hold.1 ∈ TS := mTS (List.mem_of_getElem? (i := 871) (by decide +kernel)) (by decide +kernel)
theorem mok_LawReader_hold : MOK M_LawReader_hold 1 := ⟨mTS (List.mem_of_getElem? (i := 873) (by decide +kernel)) (by decide +kernel), mTS (List.mem_of_getElem? (i := 16) (by decide +kernel)) (by decide +kernel), mTS (List.mem_of_getElem? (i := 130) (by decide +kernel)) (by decide +kernel), cw_LawReader_hold, ⟨by decide, by decide, by decide +kernel⟩, by decide +kernel, by decide⟩
def tb_LawReader_operand : List (Nat × Instr × Nat) := [(0, .aload_n 0, 1), (1, .getfield 126, 3), (4, .bipush 47, 2), (6, .if_icmp .ne 7, 3), (9, .iconst 1, 1), (10, .goto 4, 3), (13, .iconst 0, 1), (14, .istore_n 2, 1), (15, .iload_n 1, 1), (16, .iconst 2, 1), (17, .if_icmp .eq 14, 3), (20, .iload_n 1, 1), (21, .invokestatic 153, 3), (24, .ifCond .eq 60, 3), (27, .iload_n 2, 1), (28, .ifCond .ne 56, 3), (31, .iload_n 2, 1), (32, .ifCond .eq 21, 3), (35, .aload_n 0, 1), (36, .getfield 15, 3), (39, .invokevirtual 106, 3), (42, .ifCond .ne 11, 3), (45, .aload_n 0, 1), (46, .getfield 15, 3), (49, .iconst 2, 1), (50, .invokevirtual 42, 3), (53, .aload_n 0, 1), (54, .getfield 19, 3), (57, .iload_n 1, 1), (58, .iconst 2, 1), (59, .if_icmp .ne 13, 3), (62, .aload_n 0, 1), (63, .getfield 15, 3), (66, .invokevirtual 106, 3), (69, .goto 5, 3), (72, .iload_n 1, 1), (73, .ineg, 1), (74, .invokevirtual 116, 3), (77, .aload_n 0, 1), (78, .iload_n 1, 1), (79, .invokevirtual 156, 3), (82, .iconst 0, 1), (83, .ireturn, 1), (84, .iload_n 1, 1), (85, .bipush 40, 2), (87, .if_icmp .ne 7, 3), (90, .iload_n 2, 1), (91, .ifCond .eq 28, 3), (94, .iload_n 1, 1), (95, .sipush 129, 3), (98, .if_icmp .ne 10, 3), (101, .aload_n 0, 1), (102, .invokevirtual 159, 3), (105, .ifCond .ne 14, 3), (108, .aload_n 0, 1), (109, .getfield 15, 3), (112, .iconst 1, 1), (113, .invokevirtual 42, 3), (116, .goto 79, 3), (119, .aload_n 0, 1), (120, .getfield 129, 3), (123, .aload_n 0, 1), (124, .getfield 132, 3), (127, .iadd, 1), (128, .bipush 8, 2), (130, .if_icmp .lt 14, 3), (133, .aload_n 0, 1), (134, .getfield 15, 3), (137, .iconst 3, 1), (138, .invokevirtual 42, 3), (141, .goto 54, 3), (144, .aload_n 0, 1), (145, .dup, 1), (146, .getfield 129, 3), (149, .iload_n 1, 1), (150, .bipush 40, 2), (152, .if_icmp .ne 7, 3), (155, .iconst 1, 1), (156, .goto 4, 3), (159, .iconst 0, 1), (160, .iadd, 1), (161, .putfield 129, 3), (164, .aload_n 0, 1), (165, .dup, 1), (166, .getfield 132, 3), (169, .iload_n 1, 1), (170, .sipush 129, 3), (173, .if_icmp .ne 7, 3), (176, .iconst 1, 1), (177, .goto 4, 3), (180, .iconst 0, 1), (181, .iadd, 1), (182, .putfield 132, 3), (185, .aload_n 0, 1), (186, .iload_n 1, 1), (187, .invokevirtual 163, 3), (190, .aload_n 0, 1), (191, .iload_n 1, 1), (192, .invokevirtual 156, 3), (195, .iconst 1, 1), (196, .ireturn, 1)]
theorem D_LawReader_operand (i : Nat) {pc len : Nat} {ins : Instr} (hi : tb_LawReader_operand[i]? = some (pc, ins, len)) : decode M_LawReader_operand.2.1 pc = .ok (ins, len) := dec_of (by decide +kernel) i hi
def f_LawReader_operand_L74 (G : GS) (x1 : Int) (s0 : Int) (s1 : Nat) : Option (Int × GS) :=
  (f_Law_put G s1 s0).bind fun q1 =>
  (f_LawReader_goBehind q1 x1).bind fun q2 =>
  some (0, q2)
theorem s_LawReader_operand_L74 {X : XT} {r : Int × GS} : ∀ {G : GS} {x1 : Int} {s0 : Int} {s1 : Nat}, wr x1 = x1 → wr s0 = s0 → lawC s1 = true → f_LawReader_operand_L74 G x1 s0 s1 = some r → J X true 8 0 0 M_LawReader_operand (Rz r.1 r.2) NC 0 0 74 [(0, rf X 21), (1, vi x1)] [vi s0, rf X s1] G := by
  intro G x1 s0 s1 hx1 hs0 hs1 h
  unfold f_LawReader_operand_L74 at h
  obtain ⟨q1, e1, h⟩ := Option.bind_eq_some_iff.mp h
  refine j_cVv (c_Law_put hs1 (hs0) e1) rfl lk_LawReader_116 mok_Law_put (law_kd hs1).1 (law_kd hs1).2.1 rfl (by decide) rfl rfl (Nat.le_of_ble_eq_true rfl) (D_LawReader_operand 37 rfl) ?_
  refine j_aloadn (k := 0) (D_LawReader_operand 38 rfl) rfl rfl ?_
  refine j_iloadn (k := 1) (D_LawReader_operand 39 rfl) rfl rfl ?_
  obtain ⟨q2, e2, h⟩ := Option.bind_eq_some_iff.mp h
  refine j_cVv (c_LawReader_goBehind (hx1) e2) rfl lk_LawReader_156 mok_LawReader_goBehind kd_21 lc_21 rfl (by decide) rfl rfl (Nat.le_of_ble_eq_true rfl) (D_LawReader_operand 40 rfl) ?_
  refine j_iconst (v := 0) (D_LawReader_operand 41 rfl) rfl ?_
  exact j_zret (D_LawReader_operand 42 rfl) rfl (wr_lit rfl) (nz_01 (by decide)) rfl rfl (leafZ h (wr_n (wr_lit rfl)) (by decide))
def f_LawReader_operand_L53 (G : GS) (x1 : Int) : Option (Int × GS) :=
  gd (lawC (gp G 21 1) = true) <|
  if x1 = 2 then
    (f_Text_value G).bind fun q1 =>
    f_LawReader_operand_L74 G x1 q1 (gp G 21 1)
  else
    f_LawReader_operand_L74 G x1 (wr (-x1)) (gp G 21 1)
theorem s_LawReader_operand_L53 {X : XT} {r : Int × GS} : ∀ {G : GS} {x1 : Int}, wr x1 = x1 → f_LawReader_operand_L53 G x1 = some r → J X true 8 0 0 M_LawReader_operand (Rz r.1 r.2) NC 0 0 53 [(0, rf X 21), (1, vi x1)] [] G := by
  intro G x1 hx1 h
  unfold f_LawReader_operand_L53 at h
  refine j_aloadn (k := 0) (D_LawReader_operand 26 rfl) rfl rfl ?_
  have g1 := gd_c h
  replace h := gd_s h
  refine j_getR rfl fa_LawReader_19 kd_21 lc_21 (by decide) rfl (fun _ => rfl) (law_kd g1).2.2 (D_LawReader_operand 27 rfl) ?_
  refine j_iloadn (k := 1) (D_LawReader_operand 28 rfl) rfl rfl ?_
  refine j_iconst (v := 2) (D_LawReader_operand 29 rfl) rfl ?_
  refine j_ic_ne (tgt := 72) (D_LawReader_operand 30 rfl) rfl (hx1) (wr_lit rfl) (fun c1 => ?_) (fun c1 => ?_)
  · replace h := ite_f h c1
    refine j_iloadn (k := 1) (D_LawReader_operand 35 rfl) rfl rfl ?_
    refine j_ineg (D_LawReader_operand 36 rfl) ?_
    refine j_top0 (rfl) ?_
    refine j_loc [0, 1] rfl ?_
    exact s_LawReader_operand_L74 (hx1) (wr_wr _) g1 h
  · replace h := ite_t h c1
    refine j_aloadn (k := 0) (D_LawReader_operand 31 rfl) rfl rfl ?_
    refine j_getR rfl fa_LawReader_15 kd_21 lc_21 (by decide) rfl fx_21_0 (by decide) (D_LawReader_operand 32 rfl) ?_
    obtain ⟨q1, e1, h⟩ := Option.bind_eq_some_iff.mp h
    refine j_cVi (c_Text_value e1) rfl lk_LawReader_106 mok_Text_value kd_15 lc_15 rfl (by decide) rfl rfl (Nat.le_of_ble_eq_true rfl) (D_LawReader_operand 33 rfl) (fun w1 => ?_)
    refine j_goto (tgt := 74) (D_LawReader_operand 34 rfl) rfl ?_
    refine j_loc [0, 1] rfl ?_
    exact s_LawReader_operand_L74 (hx1) (w1) g1 h
def f_LawReader_operand_L31 (G : GS) (x1 : Int) (x2 : Int) : Option (Int × GS) :=
  if x2 = 0 then
    f_LawReader_operand_L53 G x1
  else
    (f_Text_value G).bind fun q1 =>
    if q1 = 0 then
      (f_Text_fail G 2).bind fun q2 =>
      f_LawReader_operand_L53 q2 x1
    else
      f_LawReader_operand_L53 G x1
theorem s_LawReader_operand_L31 {X : XT} {r : Int × GS} : ∀ {G : GS} {x1 : Int} {x2 : Int}, wr x1 = x1 → wr x2 = x2 → f_LawReader_operand_L31 G x1 x2 = some r → J X true 8 0 0 M_LawReader_operand (Rz r.1 r.2) NC 0 0 31 [(0, rf X 21), (1, vi x1), (2, vi x2)] [] G := by
  intro G x1 x2 hx1 hx2 h
  unfold f_LawReader_operand_L31 at h
  refine j_iloadn (k := 2) (D_LawReader_operand 16 rfl) rfl rfl ?_
  refine j_if_eq (tgt := 53) (D_LawReader_operand 17 rfl) rfl (hx2) (fun c1 => ?_) (fun c1 => ?_)
  · replace h := ite_t h c1
    refine j_loc [0, 1] rfl ?_
    exact s_LawReader_operand_L53 (hx1) h
  · replace h := ite_f h c1
    refine j_aloadn (k := 0) (D_LawReader_operand 18 rfl) rfl rfl ?_
    refine j_getR rfl fa_LawReader_15 kd_21 lc_21 (by decide) rfl fx_21_0 (by decide) (D_LawReader_operand 19 rfl) ?_
    obtain ⟨q1, e1, h⟩ := Option.bind_eq_some_iff.mp h
    refine j_cVi (c_Text_value e1) rfl lk_LawReader_106 mok_Text_value kd_15 lc_15 rfl (by decide) rfl rfl (Nat.le_of_ble_eq_true rfl) (D_LawReader_operand 20 rfl) (fun w1 => ?_)
    refine j_if_ne (tgt := 53) (D_LawReader_operand 21 rfl) rfl (w1) (fun c2 => ?_) (fun c2 => ?_)
    · replace h := ite_f h c2
      refine j_loc [0, 1] rfl ?_
      exact s_LawReader_operand_L53 (hx1) h
    · replace h := ite_t h c2
      refine j_aloadn (k := 0) (D_LawReader_operand 22 rfl) rfl rfl ?_
      refine j_getR rfl fa_LawReader_15 kd_21 lc_21 (by decide) rfl fx_21_0 (by decide) (D_LawReader_operand 23 rfl) ?_
      refine j_iconst (v := 2) (D_LawReader_operand 24 rfl) rfl ?_
      obtain ⟨q2, e2, h⟩ := Option.bind_eq_some_iff.mp h
      refine j_cVv (c_Text_fail (wr_lit rfl) e2) rfl lk_LawReader_42 mok_Text_fail kd_15 lc_15 rfl (by decide) rfl rfl (Nat.le_of_ble_eq_true rfl) (D_LawReader_operand 25 rfl) ?_
      refine j_loc [0, 1] rfl ?_
      exact s_LawReader_operand_L53 (hx1) h
def f_LawReader_operand_L108 (G : GS) : Option (Int × GS) :=
  (f_Text_fail G 1).bind fun q1 =>
  some (1, q1)
theorem s_LawReader_operand_L108 {X : XT} {r : Int × GS} : ∀ {G : GS}, f_LawReader_operand_L108 G = some r → J X true 8 0 0 M_LawReader_operand (Rz r.1 r.2) NC 0 0 108 [(0, rf X 21)] [] G := by
  intro G h
  unfold f_LawReader_operand_L108 at h
  refine j_aloadn (k := 0) (D_LawReader_operand 54 rfl) rfl rfl ?_
  refine j_getR rfl fa_LawReader_15 kd_21 lc_21 (by decide) rfl fx_21_0 (by decide) (D_LawReader_operand 55 rfl) ?_
  refine j_iconst (v := 1) (D_LawReader_operand 56 rfl) rfl ?_
  obtain ⟨q1, e1, h⟩ := Option.bind_eq_some_iff.mp h
  refine j_cVv (c_Text_fail (wr_lit rfl) e1) rfl lk_LawReader_42 mok_Text_fail kd_15 lc_15 rfl (by decide) rfl rfl (Nat.le_of_ble_eq_true rfl) (D_LawReader_operand 57 rfl) ?_
  refine j_goto (tgt := 195) (D_LawReader_operand 58 rfl) rfl ?_
  refine j_iconst (v := 1) (D_LawReader_operand 99 rfl) rfl ?_
  exact j_zret (D_LawReader_operand 100 rfl) rfl (wr_lit rfl) (nz_01 (by decide)) rfl rfl (leafZ h (wr_n (wr_lit rfl)) (by decide))
def f_LawReader_operand_L181 (G : GS) (x1 : Int) (s0 : Int) (s1 : Int) : Option (Int × GS) :=
  wG (si G 21 6 (s1 + s0)) fun G1 =>
  (f_LawReader_hold G1 x1).bind fun q1 =>
  (f_LawReader_goBehind q1 x1).bind fun q2 =>
  some (1, q2)
theorem s_LawReader_operand_L181 {X : XT} {r : Int × GS} : ∀ {G : GS} {x1 : Int} {s0 : Int} {s1 : Int}, wr x1 = x1 → wr s0 = s0 → wr s1 = s1 → f_LawReader_operand_L181 G x1 s0 s1 = some r → J X true 8 0 0 M_LawReader_operand (Rz r.1 r.2) NC 0 0 181 [(0, rf X 21), (1, vi x1)] [vi s0, vi s1, rf X 21] G := by
  intro G x1 s0 s1 hx1 hs0 hs1 h
  unfold f_LawReader_operand_L181 at h
  refine j_iadd (D_LawReader_operand 91 rfl) ?_
  refine j_putI rfl fa_LawReader_132 kd_21 lc_21 (by decide) rfl (D_LawReader_operand 92 rfl) ?_
  refine j_gen (fun G1 e1 => ?_)
  replace h := wG_at h e1
  refine j_aloadn (k := 0) (D_LawReader_operand 93 rfl) rfl rfl ?_
  refine j_iloadn (k := 1) (D_LawReader_operand 94 rfl) rfl rfl ?_
  obtain ⟨q1, e2, h⟩ := Option.bind_eq_some_iff.mp h
  refine j_cVv (c_LawReader_hold (hx1) e2) rfl lk_LawReader_163 mok_LawReader_hold kd_21 lc_21 rfl (by decide) rfl rfl (Nat.le_of_ble_eq_true rfl) (D_LawReader_operand 95 rfl) ?_
  refine j_aloadn (k := 0) (D_LawReader_operand 96 rfl) rfl rfl ?_
  refine j_iloadn (k := 1) (D_LawReader_operand 97 rfl) rfl rfl ?_
  obtain ⟨q2, e3, h⟩ := Option.bind_eq_some_iff.mp h
  refine j_cVv (c_LawReader_goBehind (hx1) e3) rfl lk_LawReader_156 mok_LawReader_goBehind kd_21 lc_21 rfl (by decide) rfl rfl (Nat.le_of_ble_eq_true rfl) (D_LawReader_operand 98 rfl) ?_
  refine j_iconst (v := 1) (D_LawReader_operand 99 rfl) rfl ?_
  exact j_zret (D_LawReader_operand 100 rfl) rfl (wr_lit rfl) (nz_01 (by decide)) rfl rfl (leafZ h (wr_n (wr_lit rfl)) (by decide))
def f_LawReader_operand_L160 (G : GS) (x1 : Int) (s0 : Int) (s1 : Int) : Option (Int × GS) :=
  wG (si G 21 5 (s1 + s0)) fun G1 =>
  if x1 = 129 then
    f_LawReader_operand_L181 G1 x1 1 (gi G1 21 6)
  else
    f_LawReader_operand_L181 G1 x1 0 (gi G1 21 6)
theorem s_LawReader_operand_L160 {X : XT} {r : Int × GS} : ∀ {G : GS} {x1 : Int} {s0 : Int} {s1 : Int}, wr x1 = x1 → wr s0 = s0 → wr s1 = s1 → f_LawReader_operand_L160 G x1 s0 s1 = some r → J X true 8 0 0 M_LawReader_operand (Rz r.1 r.2) NC 0 0 160 [(0, rf X 21), (1, vi x1)] [vi s0, vi s1, rf X 21] G := by
  intro G x1 s0 s1 hx1 hs0 hs1 h
  unfold f_LawReader_operand_L160 at h
  refine j_iadd (D_LawReader_operand 80 rfl) ?_
  refine j_putI rfl fa_LawReader_129 kd_21 lc_21 (by decide) rfl (D_LawReader_operand 81 rfl) ?_
  refine j_gen (fun G1 e1 => ?_)
  replace h := wG_at h e1
  refine j_aloadn (k := 0) (D_LawReader_operand 82 rfl) rfl rfl ?_
  refine j_dup (D_LawReader_operand 83 rfl) rfl ?_
  refine j_getI rfl fa_LawReader_132 kd_21 lc_21 (by decide) rfl (D_LawReader_operand 84 rfl) ?_
  refine j_iloadn (k := 1) (D_LawReader_operand 85 rfl) rfl rfl ?_
  refine j_sipush (v := 129) (D_LawReader_operand 86 rfl) rfl ?_
  refine j_ic_ne (tgt := 180) (D_LawReader_operand 87 rfl) rfl (hx1) (wr_lit rfl) (fun c1 => ?_) (fun c1 => ?_)
  · replace h := ite_f h c1
    refine j_iconst (v := 0) (D_LawReader_operand 90 rfl) rfl ?_
    refine j_loc [0, 1] rfl ?_
    exact s_LawReader_operand_L181 (hx1) (wr_lit rfl) (wr_gi _ _ _) h
  · replace h := ite_t h c1
    refine j_iconst (v := 1) (D_LawReader_operand 88 rfl) rfl ?_
    refine j_goto (tgt := 181) (D_LawReader_operand 89 rfl) rfl ?_
    refine j_loc [0, 1] rfl ?_
    exact s_LawReader_operand_L181 (hx1) (wr_lit rfl) (wr_gi _ _ _) h
def f_LawReader_operand_L119 (G : GS) (x1 : Int) : Option (Int × GS) :=
  if wr ((gi G 21 5) + (gi G 21 6)) < 8 then
    if x1 = 40 then
      f_LawReader_operand_L160 G x1 1 (gi G 21 5)
    else
      f_LawReader_operand_L160 G x1 0 (gi G 21 5)
  else
    (f_Text_fail G 3).bind fun q1 =>
    some (1, q1)
theorem s_LawReader_operand_L119 {X : XT} {r : Int × GS} : ∀ {G : GS} {x1 : Int}, wr x1 = x1 → f_LawReader_operand_L119 G x1 = some r → J X true 8 0 0 M_LawReader_operand (Rz r.1 r.2) NC 0 0 119 [(0, rf X 21), (1, vi x1)] [] G := by
  intro G x1 hx1 h
  unfold f_LawReader_operand_L119 at h
  refine j_aloadn (k := 0) (D_LawReader_operand 59 rfl) rfl rfl ?_
  refine j_getI rfl fa_LawReader_129 kd_21 lc_21 (by decide) rfl (D_LawReader_operand 60 rfl) ?_
  refine j_aloadn (k := 0) (D_LawReader_operand 61 rfl) rfl rfl ?_
  refine j_getI rfl fa_LawReader_132 kd_21 lc_21 (by decide) rfl (D_LawReader_operand 62 rfl) ?_
  refine j_iadd (D_LawReader_operand 63 rfl) ?_
  refine j_bipush (v := 8) (D_LawReader_operand 64 rfl) rfl ?_
  refine j_ic_lt (tgt := 144) (D_LawReader_operand 65 rfl) rfl (rfl) (wr_lit rfl) (fun c1 => ?_) (fun c1 => ?_)
  · replace h := ite_t h c1
    refine j_aloadn (k := 0) (D_LawReader_operand 71 rfl) rfl rfl ?_
    refine j_dup (D_LawReader_operand 72 rfl) rfl ?_
    refine j_getI rfl fa_LawReader_129 kd_21 lc_21 (by decide) rfl (D_LawReader_operand 73 rfl) ?_
    refine j_iloadn (k := 1) (D_LawReader_operand 74 rfl) rfl rfl ?_
    refine j_bipush (v := 40) (D_LawReader_operand 75 rfl) rfl ?_
    refine j_ic_ne (tgt := 159) (D_LawReader_operand 76 rfl) rfl (hx1) (wr_lit rfl) (fun c2 => ?_) (fun c2 => ?_)
    · replace h := ite_f h c2
      refine j_iconst (v := 0) (D_LawReader_operand 79 rfl) rfl ?_
      refine j_loc [0, 1] rfl ?_
      exact s_LawReader_operand_L160 (hx1) (wr_lit rfl) (wr_gi _ _ _) h
    · replace h := ite_t h c2
      refine j_iconst (v := 1) (D_LawReader_operand 77 rfl) rfl ?_
      refine j_goto (tgt := 160) (D_LawReader_operand 78 rfl) rfl ?_
      refine j_loc [0, 1] rfl ?_
      exact s_LawReader_operand_L160 (hx1) (wr_lit rfl) (wr_gi _ _ _) h
  · replace h := ite_f h c1
    refine j_aloadn (k := 0) (D_LawReader_operand 66 rfl) rfl rfl ?_
    refine j_getR rfl fa_LawReader_15 kd_21 lc_21 (by decide) rfl fx_21_0 (by decide) (D_LawReader_operand 67 rfl) ?_
    refine j_iconst (v := 3) (D_LawReader_operand 68 rfl) rfl ?_
    obtain ⟨q1, e1, h⟩ := Option.bind_eq_some_iff.mp h
    refine j_cVv (c_Text_fail (wr_lit rfl) e1) rfl lk_LawReader_42 mok_Text_fail kd_15 lc_15 rfl (by decide) rfl rfl (Nat.le_of_ble_eq_true rfl) (D_LawReader_operand 69 rfl) ?_
    refine j_goto (tgt := 195) (D_LawReader_operand 70 rfl) rfl ?_
    refine j_iconst (v := 1) (D_LawReader_operand 99 rfl) rfl ?_
    exact j_zret (D_LawReader_operand 100 rfl) rfl (wr_lit rfl) (nz_01 (by decide)) rfl rfl (leafZ h (wr_n (wr_lit rfl)) (by decide))
def f_LawReader_operand_L94 (G : GS) (x1 : Int) : Option (Int × GS) :=
  if x1 = 129 then
    (f_LawReader_mayNegate G).bind fun q1 =>
    if q1 = 0 then
      f_LawReader_operand_L108 G
    else
      f_LawReader_operand_L119 G x1
  else
    f_LawReader_operand_L108 G
theorem s_LawReader_operand_L94 {X : XT} {r : Int × GS} : ∀ {G : GS} {x1 : Int}, wr x1 = x1 → f_LawReader_operand_L94 G x1 = some r → J X true 8 0 0 M_LawReader_operand (Rz r.1 r.2) NC 0 0 94 [(0, rf X 21), (1, vi x1)] [] G := by
  intro G x1 hx1 h
  unfold f_LawReader_operand_L94 at h
  refine j_iloadn (k := 1) (D_LawReader_operand 48 rfl) rfl rfl ?_
  refine j_sipush (v := 129) (D_LawReader_operand 49 rfl) rfl ?_
  refine j_ic_ne (tgt := 108) (D_LawReader_operand 50 rfl) rfl (hx1) (wr_lit rfl) (fun c1 => ?_) (fun c1 => ?_)
  · replace h := ite_f h c1
    refine j_loc [0] rfl ?_
    exact s_LawReader_operand_L108 h
  · replace h := ite_t h c1
    refine j_aloadn (k := 0) (D_LawReader_operand 51 rfl) rfl rfl ?_
    obtain ⟨q1, e1, h⟩ := Option.bind_eq_some_iff.mp h
    refine j_cVz (c_LawReader_mayNegate e1) rfl lk_LawReader_159 mok_LawReader_mayNegate kd_21 lc_21 rfl (by decide) rfl rfl (Nat.le_of_ble_eq_true rfl) (D_LawReader_operand 52 rfl) (fun w1 bw1 => ?_)
    refine j_if_ne (tgt := 119) (D_LawReader_operand 53 rfl) rfl (w1) (fun c2 => ?_) (fun c2 => ?_)
    · replace h := ite_f h c2
      refine j_loc [0, 1] rfl ?_
      exact s_LawReader_operand_L119 (hx1) h
    · replace h := ite_t h c2
      refine j_loc [0] rfl ?_
      exact s_LawReader_operand_L108 h
def f_LawReader_operand_L84 (G : GS) (x1 : Int) (x2 : Int) : Option (Int × GS) :=
  if x1 = 40 then
    if x2 = 0 then
      f_LawReader_operand_L119 G x1
    else
      f_LawReader_operand_L94 G x1
  else
    f_LawReader_operand_L94 G x1
theorem s_LawReader_operand_L84 {X : XT} {r : Int × GS} : ∀ {G : GS} {x1 : Int} {x2 : Int}, wr x1 = x1 → wr x2 = x2 → f_LawReader_operand_L84 G x1 x2 = some r → J X true 8 0 0 M_LawReader_operand (Rz r.1 r.2) NC 0 0 84 [(0, rf X 21), (1, vi x1), (2, vi x2)] [] G := by
  intro G x1 x2 hx1 hx2 h
  unfold f_LawReader_operand_L84 at h
  refine j_iloadn (k := 1) (D_LawReader_operand 43 rfl) rfl rfl ?_
  refine j_bipush (v := 40) (D_LawReader_operand 44 rfl) rfl ?_
  refine j_ic_ne (tgt := 94) (D_LawReader_operand 45 rfl) rfl (hx1) (wr_lit rfl) (fun c1 => ?_) (fun c1 => ?_)
  · replace h := ite_f h c1
    refine j_loc [0, 1] rfl ?_
    exact s_LawReader_operand_L94 (hx1) h
  · replace h := ite_t h c1
    refine j_iloadn (k := 2) (D_LawReader_operand 46 rfl) rfl rfl ?_
    refine j_if_eq (tgt := 119) (D_LawReader_operand 47 rfl) rfl (hx2) (fun c2 => ?_) (fun c2 => ?_)
    · replace h := ite_t h c2
      refine j_loc [0, 1] rfl ?_
      exact s_LawReader_operand_L119 (hx1) h
    · replace h := ite_f h c2
      refine j_loc [0, 1] rfl ?_
      exact s_LawReader_operand_L94 (hx1) h
def f_LawReader_operand_L14 (G : GS) (x1 : Int) (s0 : Int) : Option (Int × GS) :=
  if x1 = 2 then
    f_LawReader_operand_L31 G x1 s0
  else
    (f_LawReader_isAsked G x1).bind fun q1 =>
    if q1 = 0 then
      f_LawReader_operand_L84 G x1 s0
    else
      if s0 = 0 then
        f_LawReader_operand_L31 G x1 s0
      else
        f_LawReader_operand_L84 G x1 s0
theorem s_LawReader_operand_L14 {X : XT} {r : Int × GS} : ∀ {G : GS} {x1 : Int} {s0 : Int}, wr x1 = x1 → wr s0 = s0 → f_LawReader_operand_L14 G x1 s0 = some r → J X true 8 0 0 M_LawReader_operand (Rz r.1 r.2) NC 0 0 14 [(0, rf X 21), (1, vi x1)] [vi s0] G := by
  intro G x1 s0 hx1 hs0 h
  unfold f_LawReader_operand_L14 at h
  refine j_istoren (L' := [(2, vi s0), (0, rf X 21), (1, vi x1)]) (D_LawReader_operand 7 rfl) rfl (hs0) (by decide) rfl ?_
  refine j_iloadn (k := 2) (D_LawReader_operand 8 rfl) rfl rfl ?_
  refine j_iconst (v := 2) (D_LawReader_operand 9 rfl) rfl ?_
  refine j_ic_eq (tgt := 31) (D_LawReader_operand 10 rfl) rfl (hx1) (wr_lit rfl) (fun c1 => ?_) (fun c1 => ?_)
  · replace h := ite_t h c1
    refine j_loc [1, 2, 0] rfl ?_
    exact s_LawReader_operand_L31 (hx1) (hs0) h
  · replace h := ite_f h c1
    refine j_iloadn (k := 2) (D_LawReader_operand 11 rfl) rfl rfl ?_
    obtain ⟨q1, e1, h⟩ := Option.bind_eq_some_iff.mp h
    refine j_cSz (c_LawReader_isAsked (hx1) e1) rfl lk_LawReader_153 sok_LawReader_isAsked (by decide) rfl rfl (Nat.le_of_ble_eq_true rfl) (D_LawReader_operand 12 rfl) (fun w1 bw1 => ?_)
    refine j_if_eq (tgt := 84) (D_LawReader_operand 13 rfl) rfl (w1) (fun c2 => ?_) (fun c2 => ?_)
    · replace h := ite_t h c2
      refine j_loc [1, 2, 0] rfl ?_
      exact s_LawReader_operand_L84 (hx1) (hs0) h
    · replace h := ite_f h c2
      refine j_iloadn (k := 0) (D_LawReader_operand 14 rfl) rfl rfl ?_
      refine j_if_ne (tgt := 84) (D_LawReader_operand 15 rfl) rfl (hs0) (fun c3 => ?_) (fun c3 => ?_)
      · replace h := ite_f h c3
        refine j_loc [1, 2, 0] rfl ?_
        exact s_LawReader_operand_L84 (hx1) (hs0) h
      · replace h := ite_t h c3
        refine j_loc [1, 2, 0] rfl ?_
        exact s_LawReader_operand_L31 (hx1) (hs0) h
def f_LawReader_operand (G : GS) (a1 : Int) : Option (Int × GS) :=
  if gi G 21 4 = 47 then
    f_LawReader_operand_L14 G a1 1
  else
    f_LawReader_operand_L14 G a1 0
theorem c_LawReader_operand {X : XT} {G : GS} {a1 : Int} {r : Int × GS} (ha1 : wr a1 = a1) (h : f_LawReader_operand G a1 = some r) : Call X true 8 0 0 M_LawReader_operand [rf X 21, vi a1] NC G (Rz r.1 r.2) := by
  refine Call_of_J cw_LawReader_operand (by decide +kernel) (Nat.le_of_ble_eq_true rfl) ?_
  unfold f_LawReader_operand at h
  show J X true 8 0 0 M_LawReader_operand (Rz r.1 r.2) NC 0 0 0 [(0, rf X 21), (1, vi a1)] [] G
  refine j_aloadn (k := 0) (D_LawReader_operand 0 rfl) rfl rfl ?_
  refine j_getI rfl fa_LawReader_126 kd_21 lc_21 (by decide) rfl (D_LawReader_operand 1 rfl) ?_
  refine j_bipush (v := 47) (D_LawReader_operand 2 rfl) rfl ?_
  refine j_ic_ne (tgt := 13) (D_LawReader_operand 3 rfl) rfl (wr_gi _ _ _) (wr_lit rfl) (fun c1 => ?_) (fun c1 => ?_)
  · replace h := ite_f h c1
    refine j_iconst (v := 0) (D_LawReader_operand 6 rfl) rfl ?_
    refine j_loc [0, 1] rfl ?_
    exact s_LawReader_operand_L14 (ha1) (wr_lit rfl) h
  · replace h := ite_t h c1
    refine j_iconst (v := 1) (D_LawReader_operand 4 rfl) rfl ?_
    refine j_goto (tgt := 14) (D_LawReader_operand 5 rfl) rfl ?_
    refine j_loc [0, 1] rfl ?_
    exact s_LawReader_operand_L14 (ha1) (wr_lit rfl) h
abbrev M_LawReader_mayFollow : MI := (⟨"InquestHall$LawReader", "mayFollow", "(I)Z"⟩, prog_6_method_14_code, 2, (some .boolean))
theorem cw_LawReader_mayFollow : Cond.code M_LawReader_mayFollow.1 M_LawReader_mayFollow.2.1 M_LawReader_mayFollow.2.2.1 M_LawReader_mayFollow.2.2.2 ∈ TS := mTS (List.mem_of_getElem? (i := 878) (by decide +kernel)) (by decide +kernel)
theorem fa_LawReader_135 : FA "InquestHall$LawReader" 135 4 8 false .boolean := ⟨_, _, _, _, ok_LawReader, by decide, mTS (List.mem_of_getElem? (i := 343) (by decide +kernel)) (by decide +kernel), rfl, rfl⟩
def tb_LawReader_mayFollow : List (Nat × Instr × Nat) := [(0, .iload_n 1, 1), (1, .lookupswitch 160 #[(41, 93), (42, 91), (43, 91), (45, 91), (47, 91), (60, 106), (61, 106), (62, 106), (127, 133), (128, 133)], 91), (92, .iconst 1, 1), (93, .ireturn, 1), (94, .aload_n 0, 1), (95, .getfield 129, 3), (98, .ifCond .le 7, 3), (101, .iconst 1, 1), (102, .goto 4, 3), (105, .iconst 0, 1), (106, .ireturn, 1), (107, .aload_n 0, 1), (108, .getfield 119, 3), (111, .ifCond .eq 21, 3), (114, .aload_n 0, 1), (115, .getfield 129, 3), (118, .ifCond .ne 14, 3), (121, .aload_n 0, 1), (122, .getfield 135, 3), (125, .ifCond .ne 7, 3), (128, .iconst 1, 1), (129, .goto 4, 3), (132, .iconst 0, 1), (133, .ireturn, 1), (134, .aload_n 0, 1), (135, .getfield 119, 3), (138, .ifCond .eq 21, 3), (141, .aload_n 0, 1), (142, .getfield 129, 3), (145, .ifCond .ne 14, 3), (148, .aload_n 0, 1), (149, .getfield 135, 3), (152, .ifCond .eq 7, 3), (155, .iconst 1, 1), (156, .goto 4, 3), (159, .iconst 0, 1), (160, .ireturn, 1), (161, .iconst 0, 1), (162, .ireturn, 1)]
theorem D_LawReader_mayFollow (i : Nat) {pc len : Nat} {ins : Instr} (hi : tb_LawReader_mayFollow[i]? = some (pc, ins, len)) : decode M_LawReader_mayFollow.2.1 pc = .ok (ins, len) := dec_of (by decide +kernel) i hi
def f_LawReader_mayFollow (G : GS) (a1 : Int) : Option (Int) :=
  if a1 = 41 then
    if gi G 21 5 ≤ 0 then
      some 0
    else
      some 1
  else
    if a1 = 42 then
      some 1
    else
      if a1 = 43 then
        some 1
      else
        if a1 = 45 then
          some 1
        else
          if a1 = 47 then
            some 1
          else
            if a1 = 60 then
              if gi G 21 7 = 0 then
                some 0
              else
                if gi G 21 5 = 0 then
                  if gi G 21 8 = 0 then
                    some 1
                  else
                    some 0
                else
                  some 0
            else
              if a1 = 61 then
                if gi G 21 7 = 0 then
                  some 0
                else
                  if gi G 21 5 = 0 then
                    if gi G 21 8 = 0 then
                      some 1
                    else
                      some 0
                  else
                    some 0
              else
                if a1 = 62 then
                  if gi G 21 7 = 0 then
                    some 0
                  else
                    if gi G 21 5 = 0 then
                      if gi G 21 8 = 0 then
                        some 1
                      else
                        some 0
                    else
                      some 0
                else
                  if a1 = 127 then
                    if gi G 21 7 = 0 then
                      some 0
                    else
                      if gi G 21 5 = 0 then
                        if gi G 21 8 = 0 then
                          some 0
                        else
                          some 1
                      else
                        some 0
                  else
                    if a1 = 128 then
                      if gi G 21 7 = 0 then
                        some 0
                      else
                        if gi G 21 5 = 0 then
                          if gi G 21 8 = 0 then
                            some 0
                          else
                            some 1
                        else
                          some 0
                    else
                      some 0
theorem c_LawReader_mayFollow {X : XT} {G : GS} {a1 : Int} {r : Int} (ha1 : wr a1 = a1) (h : f_LawReader_mayFollow G a1 = some r) : Call X true 6 0 0 M_LawReader_mayFollow [rf X 21, vi a1] NC G (Rz r G) := by
  refine Call_of_J cw_LawReader_mayFollow (by decide +kernel) (Nat.le_of_ble_eq_true rfl) ?_
  unfold f_LawReader_mayFollow at h
  show J X true 6 0 0 M_LawReader_mayFollow (Rz r G) NC 0 0 0 [(0, rf X 21), (1, vi a1)] [] G
  refine j_iloadn (k := 1) (D_LawReader_mayFollow 0 rfl) rfl rfl ?_
  by_cases c1 : a1 = 41
  · replace h := ite_t h c1
    refine j_lIn (tgt := 94) (D_LawReader_mayFollow 1 rfl) (ha1) c1 rfl rfl rfl ?_
    refine j_aloadn (k := 0) (D_LawReader_mayFollow 4 rfl) rfl rfl ?_
    refine j_getI rfl fa_LawReader_129 kd_21 lc_21 (by decide) rfl (D_LawReader_mayFollow 5 rfl) ?_
    refine j_if_le (tgt := 105) (D_LawReader_mayFollow 6 rfl) rfl (wr_gi _ _ _) (fun c2 => ?_) (fun c2 => ?_)
    · replace h := ite_t h c2
      refine j_iconst (v := 0) (D_LawReader_mayFollow 9 rfl) rfl ?_
      exact j_zret (D_LawReader_mayFollow 10 rfl) rfl (wr_lit rfl) (nz_01 (by decide)) rfl rfl (leafZo h (wr_n (wr_lit rfl)) (by decide))
    · replace h := ite_f h c2
      refine j_iconst (v := 1) (D_LawReader_mayFollow 7 rfl) rfl ?_
      refine j_goto (tgt := 106) (D_LawReader_mayFollow 8 rfl) rfl ?_
      exact j_zret (D_LawReader_mayFollow 10 rfl) rfl (wr_lit rfl) (nz_01 (by decide)) rfl rfl (leafZo h (wr_n (wr_lit rfl)) (by decide))
  · replace h := ite_f h c1
    by_cases c3 : a1 = 42
    · replace h := ite_t h c3
      refine j_lIn (tgt := 92) (D_LawReader_mayFollow 1 rfl) (ha1) c3 rfl rfl rfl ?_
      refine j_iconst (v := 1) (D_LawReader_mayFollow 2 rfl) rfl ?_
      exact j_zret (D_LawReader_mayFollow 3 rfl) rfl (wr_lit rfl) (nz_01 (by decide)) rfl rfl (leafZo h (wr_n (wr_lit rfl)) (by decide))
    · replace h := ite_f h c3
      by_cases c4 : a1 = 43
      · replace h := ite_t h c4
        refine j_lIn (tgt := 92) (D_LawReader_mayFollow 1 rfl) (ha1) c4 rfl rfl rfl ?_
        refine j_iconst (v := 1) (D_LawReader_mayFollow 2 rfl) rfl ?_
        exact j_zret (D_LawReader_mayFollow 3 rfl) rfl (wr_lit rfl) (nz_01 (by decide)) rfl rfl (leafZo h (wr_n (wr_lit rfl)) (by decide))
      · replace h := ite_f h c4
        by_cases c5 : a1 = 45
        · replace h := ite_t h c5
          refine j_lIn (tgt := 92) (D_LawReader_mayFollow 1 rfl) (ha1) c5 rfl rfl rfl ?_
          refine j_iconst (v := 1) (D_LawReader_mayFollow 2 rfl) rfl ?_
          exact j_zret (D_LawReader_mayFollow 3 rfl) rfl (wr_lit rfl) (nz_01 (by decide)) rfl rfl (leafZo h (wr_n (wr_lit rfl)) (by decide))
        · replace h := ite_f h c5
          by_cases c6 : a1 = 47
          · replace h := ite_t h c6
            refine j_lIn (tgt := 92) (D_LawReader_mayFollow 1 rfl) (ha1) c6 rfl rfl rfl ?_
            refine j_iconst (v := 1) (D_LawReader_mayFollow 2 rfl) rfl ?_
            exact j_zret (D_LawReader_mayFollow 3 rfl) rfl (wr_lit rfl) (nz_01 (by decide)) rfl rfl (leafZo h (wr_n (wr_lit rfl)) (by decide))
          · replace h := ite_f h c6
            by_cases c7 : a1 = 60
            · replace h := ite_t h c7
              refine j_lIn (tgt := 107) (D_LawReader_mayFollow 1 rfl) (ha1) c7 rfl rfl rfl ?_
              refine j_aloadn (k := 0) (D_LawReader_mayFollow 11 rfl) rfl rfl ?_
              refine j_getI rfl fa_LawReader_119 kd_21 lc_21 (by decide) rfl (D_LawReader_mayFollow 12 rfl) ?_
              refine j_if_eq (tgt := 132) (D_LawReader_mayFollow 13 rfl) rfl (wr_gi _ _ _) (fun c8 => ?_) (fun c8 => ?_)
              · replace h := ite_t h c8
                refine j_iconst (v := 0) (D_LawReader_mayFollow 22 rfl) rfl ?_
                exact j_zret (D_LawReader_mayFollow 23 rfl) rfl (wr_lit rfl) (nz_01 (by decide)) rfl rfl (leafZo h (wr_n (wr_lit rfl)) (by decide))
              · replace h := ite_f h c8
                refine j_aloadn (k := 0) (D_LawReader_mayFollow 14 rfl) rfl rfl ?_
                refine j_getI rfl fa_LawReader_129 kd_21 lc_21 (by decide) rfl (D_LawReader_mayFollow 15 rfl) ?_
                refine j_if_ne (tgt := 132) (D_LawReader_mayFollow 16 rfl) rfl (wr_gi _ _ _) (fun c9 => ?_) (fun c9 => ?_)
                · replace h := ite_f h c9
                  refine j_iconst (v := 0) (D_LawReader_mayFollow 22 rfl) rfl ?_
                  exact j_zret (D_LawReader_mayFollow 23 rfl) rfl (wr_lit rfl) (nz_01 (by decide)) rfl rfl (leafZo h (wr_n (wr_lit rfl)) (by decide))
                · replace h := ite_t h c9
                  refine j_aloadn (k := 0) (D_LawReader_mayFollow 17 rfl) rfl rfl ?_
                  refine j_getI rfl fa_LawReader_135 kd_21 lc_21 (by decide) rfl (D_LawReader_mayFollow 18 rfl) ?_
                  refine j_if_ne (tgt := 132) (D_LawReader_mayFollow 19 rfl) rfl (wr_gi _ _ _) (fun c10 => ?_) (fun c10 => ?_)
                  · replace h := ite_f h c10
                    refine j_iconst (v := 0) (D_LawReader_mayFollow 22 rfl) rfl ?_
                    exact j_zret (D_LawReader_mayFollow 23 rfl) rfl (wr_lit rfl) (nz_01 (by decide)) rfl rfl (leafZo h (wr_n (wr_lit rfl)) (by decide))
                  · replace h := ite_t h c10
                    refine j_iconst (v := 1) (D_LawReader_mayFollow 20 rfl) rfl ?_
                    refine j_goto (tgt := 133) (D_LawReader_mayFollow 21 rfl) rfl ?_
                    exact j_zret (D_LawReader_mayFollow 23 rfl) rfl (wr_lit rfl) (nz_01 (by decide)) rfl rfl (leafZo h (wr_n (wr_lit rfl)) (by decide))
            · replace h := ite_f h c7
              by_cases c11 : a1 = 61
              · replace h := ite_t h c11
                refine j_lIn (tgt := 107) (D_LawReader_mayFollow 1 rfl) (ha1) c11 rfl rfl rfl ?_
                refine j_aloadn (k := 0) (D_LawReader_mayFollow 11 rfl) rfl rfl ?_
                refine j_getI rfl fa_LawReader_119 kd_21 lc_21 (by decide) rfl (D_LawReader_mayFollow 12 rfl) ?_
                refine j_if_eq (tgt := 132) (D_LawReader_mayFollow 13 rfl) rfl (wr_gi _ _ _) (fun c12 => ?_) (fun c12 => ?_)
                · replace h := ite_t h c12
                  refine j_iconst (v := 0) (D_LawReader_mayFollow 22 rfl) rfl ?_
                  exact j_zret (D_LawReader_mayFollow 23 rfl) rfl (wr_lit rfl) (nz_01 (by decide)) rfl rfl (leafZo h (wr_n (wr_lit rfl)) (by decide))
                · replace h := ite_f h c12
                  refine j_aloadn (k := 0) (D_LawReader_mayFollow 14 rfl) rfl rfl ?_
                  refine j_getI rfl fa_LawReader_129 kd_21 lc_21 (by decide) rfl (D_LawReader_mayFollow 15 rfl) ?_
                  refine j_if_ne (tgt := 132) (D_LawReader_mayFollow 16 rfl) rfl (wr_gi _ _ _) (fun c13 => ?_) (fun c13 => ?_)
                  · replace h := ite_f h c13
                    refine j_iconst (v := 0) (D_LawReader_mayFollow 22 rfl) rfl ?_
                    exact j_zret (D_LawReader_mayFollow 23 rfl) rfl (wr_lit rfl) (nz_01 (by decide)) rfl rfl (leafZo h (wr_n (wr_lit rfl)) (by decide))
                  · replace h := ite_t h c13
                    refine j_aloadn (k := 0) (D_LawReader_mayFollow 17 rfl) rfl rfl ?_
                    refine j_getI rfl fa_LawReader_135 kd_21 lc_21 (by decide) rfl (D_LawReader_mayFollow 18 rfl) ?_
                    refine j_if_ne (tgt := 132) (D_LawReader_mayFollow 19 rfl) rfl (wr_gi _ _ _) (fun c14 => ?_) (fun c14 => ?_)
                    · replace h := ite_f h c14
                      refine j_iconst (v := 0) (D_LawReader_mayFollow 22 rfl) rfl ?_
                      exact j_zret (D_LawReader_mayFollow 23 rfl) rfl (wr_lit rfl) (nz_01 (by decide)) rfl rfl (leafZo h (wr_n (wr_lit rfl)) (by decide))
                    · replace h := ite_t h c14
                      refine j_iconst (v := 1) (D_LawReader_mayFollow 20 rfl) rfl ?_
                      refine j_goto (tgt := 133) (D_LawReader_mayFollow 21 rfl) rfl ?_
                      exact j_zret (D_LawReader_mayFollow 23 rfl) rfl (wr_lit rfl) (nz_01 (by decide)) rfl rfl (leafZo h (wr_n (wr_lit rfl)) (by decide))
              · replace h := ite_f h c11
                by_cases c15 : a1 = 62
                · replace h := ite_t h c15
                  refine j_lIn (tgt := 107) (D_LawReader_mayFollow 1 rfl) (ha1) c15 rfl rfl rfl ?_
                  refine j_aloadn (k := 0) (D_LawReader_mayFollow 11 rfl) rfl rfl ?_
                  refine j_getI rfl fa_LawReader_119 kd_21 lc_21 (by decide) rfl (D_LawReader_mayFollow 12 rfl) ?_
                  refine j_if_eq (tgt := 132) (D_LawReader_mayFollow 13 rfl) rfl (wr_gi _ _ _) (fun c16 => ?_) (fun c16 => ?_)
                  · replace h := ite_t h c16
                    refine j_iconst (v := 0) (D_LawReader_mayFollow 22 rfl) rfl ?_
                    exact j_zret (D_LawReader_mayFollow 23 rfl) rfl (wr_lit rfl) (nz_01 (by decide)) rfl rfl (leafZo h (wr_n (wr_lit rfl)) (by decide))
                  · replace h := ite_f h c16
                    refine j_aloadn (k := 0) (D_LawReader_mayFollow 14 rfl) rfl rfl ?_
                    refine j_getI rfl fa_LawReader_129 kd_21 lc_21 (by decide) rfl (D_LawReader_mayFollow 15 rfl) ?_
                    refine j_if_ne (tgt := 132) (D_LawReader_mayFollow 16 rfl) rfl (wr_gi _ _ _) (fun c17 => ?_) (fun c17 => ?_)
                    · replace h := ite_f h c17
                      refine j_iconst (v := 0) (D_LawReader_mayFollow 22 rfl) rfl ?_
                      exact j_zret (D_LawReader_mayFollow 23 rfl) rfl (wr_lit rfl) (nz_01 (by decide)) rfl rfl (leafZo h (wr_n (wr_lit rfl)) (by decide))
                    · replace h := ite_t h c17
                      refine j_aloadn (k := 0) (D_LawReader_mayFollow 17 rfl) rfl rfl ?_
                      refine j_getI rfl fa_LawReader_135 kd_21 lc_21 (by decide) rfl (D_LawReader_mayFollow 18 rfl) ?_
                      refine j_if_ne (tgt := 132) (D_LawReader_mayFollow 19 rfl) rfl (wr_gi _ _ _) (fun c18 => ?_) (fun c18 => ?_)
                      · replace h := ite_f h c18
                        refine j_iconst (v := 0) (D_LawReader_mayFollow 22 rfl) rfl ?_
                        exact j_zret (D_LawReader_mayFollow 23 rfl) rfl (wr_lit rfl) (nz_01 (by decide)) rfl rfl (leafZo h (wr_n (wr_lit rfl)) (by decide))
                      · replace h := ite_t h c18
                        refine j_iconst (v := 1) (D_LawReader_mayFollow 20 rfl) rfl ?_
                        refine j_goto (tgt := 133) (D_LawReader_mayFollow 21 rfl) rfl ?_
                        exact j_zret (D_LawReader_mayFollow 23 rfl) rfl (wr_lit rfl) (nz_01 (by decide)) rfl rfl (leafZo h (wr_n (wr_lit rfl)) (by decide))
                · replace h := ite_f h c15
                  by_cases c19 : a1 = 127
                  · replace h := ite_t h c19
                    refine j_lIn (tgt := 134) (D_LawReader_mayFollow 1 rfl) (ha1) c19 rfl rfl rfl ?_
                    refine j_aloadn (k := 0) (D_LawReader_mayFollow 24 rfl) rfl rfl ?_
                    refine j_getI rfl fa_LawReader_119 kd_21 lc_21 (by decide) rfl (D_LawReader_mayFollow 25 rfl) ?_
                    refine j_if_eq (tgt := 159) (D_LawReader_mayFollow 26 rfl) rfl (wr_gi _ _ _) (fun c20 => ?_) (fun c20 => ?_)
                    · replace h := ite_t h c20
                      refine j_iconst (v := 0) (D_LawReader_mayFollow 35 rfl) rfl ?_
                      exact j_zret (D_LawReader_mayFollow 36 rfl) rfl (wr_lit rfl) (nz_01 (by decide)) rfl rfl (leafZo h (wr_n (wr_lit rfl)) (by decide))
                    · replace h := ite_f h c20
                      refine j_aloadn (k := 0) (D_LawReader_mayFollow 27 rfl) rfl rfl ?_
                      refine j_getI rfl fa_LawReader_129 kd_21 lc_21 (by decide) rfl (D_LawReader_mayFollow 28 rfl) ?_
                      refine j_if_ne (tgt := 159) (D_LawReader_mayFollow 29 rfl) rfl (wr_gi _ _ _) (fun c21 => ?_) (fun c21 => ?_)
                      · replace h := ite_f h c21
                        refine j_iconst (v := 0) (D_LawReader_mayFollow 35 rfl) rfl ?_
                        exact j_zret (D_LawReader_mayFollow 36 rfl) rfl (wr_lit rfl) (nz_01 (by decide)) rfl rfl (leafZo h (wr_n (wr_lit rfl)) (by decide))
                      · replace h := ite_t h c21
                        refine j_aloadn (k := 0) (D_LawReader_mayFollow 30 rfl) rfl rfl ?_
                        refine j_getI rfl fa_LawReader_135 kd_21 lc_21 (by decide) rfl (D_LawReader_mayFollow 31 rfl) ?_
                        refine j_if_eq (tgt := 159) (D_LawReader_mayFollow 32 rfl) rfl (wr_gi _ _ _) (fun c22 => ?_) (fun c22 => ?_)
                        · replace h := ite_t h c22
                          refine j_iconst (v := 0) (D_LawReader_mayFollow 35 rfl) rfl ?_
                          exact j_zret (D_LawReader_mayFollow 36 rfl) rfl (wr_lit rfl) (nz_01 (by decide)) rfl rfl (leafZo h (wr_n (wr_lit rfl)) (by decide))
                        · replace h := ite_f h c22
                          refine j_iconst (v := 1) (D_LawReader_mayFollow 33 rfl) rfl ?_
                          refine j_goto (tgt := 160) (D_LawReader_mayFollow 34 rfl) rfl ?_
                          exact j_zret (D_LawReader_mayFollow 36 rfl) rfl (wr_lit rfl) (nz_01 (by decide)) rfl rfl (leafZo h (wr_n (wr_lit rfl)) (by decide))
                  · replace h := ite_f h c19
                    by_cases c23 : a1 = 128
                    · replace h := ite_t h c23
                      refine j_lIn (tgt := 134) (D_LawReader_mayFollow 1 rfl) (ha1) c23 rfl rfl rfl ?_
                      refine j_aloadn (k := 0) (D_LawReader_mayFollow 24 rfl) rfl rfl ?_
                      refine j_getI rfl fa_LawReader_119 kd_21 lc_21 (by decide) rfl (D_LawReader_mayFollow 25 rfl) ?_
                      refine j_if_eq (tgt := 159) (D_LawReader_mayFollow 26 rfl) rfl (wr_gi _ _ _) (fun c24 => ?_) (fun c24 => ?_)
                      · replace h := ite_t h c24
                        refine j_iconst (v := 0) (D_LawReader_mayFollow 35 rfl) rfl ?_
                        exact j_zret (D_LawReader_mayFollow 36 rfl) rfl (wr_lit rfl) (nz_01 (by decide)) rfl rfl (leafZo h (wr_n (wr_lit rfl)) (by decide))
                      · replace h := ite_f h c24
                        refine j_aloadn (k := 0) (D_LawReader_mayFollow 27 rfl) rfl rfl ?_
                        refine j_getI rfl fa_LawReader_129 kd_21 lc_21 (by decide) rfl (D_LawReader_mayFollow 28 rfl) ?_
                        refine j_if_ne (tgt := 159) (D_LawReader_mayFollow 29 rfl) rfl (wr_gi _ _ _) (fun c25 => ?_) (fun c25 => ?_)
                        · replace h := ite_f h c25
                          refine j_iconst (v := 0) (D_LawReader_mayFollow 35 rfl) rfl ?_
                          exact j_zret (D_LawReader_mayFollow 36 rfl) rfl (wr_lit rfl) (nz_01 (by decide)) rfl rfl (leafZo h (wr_n (wr_lit rfl)) (by decide))
                        · replace h := ite_t h c25
                          refine j_aloadn (k := 0) (D_LawReader_mayFollow 30 rfl) rfl rfl ?_
                          refine j_getI rfl fa_LawReader_135 kd_21 lc_21 (by decide) rfl (D_LawReader_mayFollow 31 rfl) ?_
                          refine j_if_eq (tgt := 159) (D_LawReader_mayFollow 32 rfl) rfl (wr_gi _ _ _) (fun c26 => ?_) (fun c26 => ?_)
                          · replace h := ite_t h c26
                            refine j_iconst (v := 0) (D_LawReader_mayFollow 35 rfl) rfl ?_
                            exact j_zret (D_LawReader_mayFollow 36 rfl) rfl (wr_lit rfl) (nz_01 (by decide)) rfl rfl (leafZo h (wr_n (wr_lit rfl)) (by decide))
                          · replace h := ite_f h c26
                            refine j_iconst (v := 1) (D_LawReader_mayFollow 33 rfl) rfl ?_
                            refine j_goto (tgt := 160) (D_LawReader_mayFollow 34 rfl) rfl ?_
                            exact j_zret (D_LawReader_mayFollow 36 rfl) rfl (wr_lit rfl) (nz_01 (by decide)) rfl rfl (leafZo h (wr_n (wr_lit rfl)) (by decide))
                    · replace h := ite_f h c23
                      refine j_lOut (tgt := 161) (D_LawReader_mayFollow 1 rfl) (ha1) rfl (by simp [c1, c3, c4, c5, c6, c7, c11, c15, c19, c23]) rfl ?_
                      refine j_iconst (v := 0) (D_LawReader_mayFollow 37 rfl) rfl ?_
                      exact j_zret (D_LawReader_mayFollow 38 rfl) rfl (wr_lit rfl) (nz_01 (by decide)) rfl rfl (leafZo h (wr_n (wr_lit rfl)) (by decide))
abbrev M_LawReader_rank : MI := (⟨"InquestHall$LawReader", "rank", "(I)I"⟩, prog_6_method_17_code, 1, (some .int))
theorem cw_LawReader_rank : Cond.code M_LawReader_rank.1 M_LawReader_rank.2.1 M_LawReader_rank.2.2.1 M_LawReader_rank.2.2.2 ∈ TS := mTS (List.mem_of_getElem? (i := 885) (by decide +kernel)) (by decide +kernel)
def tb_LawReader_rank : List (Nat × Instr × Nat) := [(0, .iload_n 0, 1), (1, .lookupswitch 104 #[(42, 101), (43, 99), (45, 99), (47, 101), (60, 97), (61, 97), (62, 97), (127, 91), (128, 93), (129, 95)], 91), (92, .iconst 1, 1), (93, .ireturn, 1), (94, .iconst 2, 1), (95, .ireturn, 1), (96, .iconst 3, 1), (97, .ireturn, 1), (98, .iconst 4, 1), (99, .ireturn, 1), (100, .iconst 5, 1), (101, .ireturn, 1), (102, .bipush 6, 2), (104, .ireturn, 1), (105, .iconst 0, 1), (106, .ireturn, 1)]
theorem D_LawReader_rank (i : Nat) {pc len : Nat} {ins : Instr} (hi : tb_LawReader_rank[i]? = some (pc, ins, len)) : decode M_LawReader_rank.2.1 pc = .ok (ins, len) := dec_of (by decide +kernel) i hi
def f_LawReader_rank (G : GS) (a0 : Int) : Option (Int) :=
  if a0 = 42 then
    some 6
  else
    if a0 = 43 then
      some 5
    else
      if a0 = 45 then
        some 5
      else
        if a0 = 47 then
          some 6
        else
          if a0 = 60 then
            some 4
          else
            if a0 = 61 then
              some 4
            else
              if a0 = 62 then
                some 4
              else
                if a0 = 127 then
                  some 1
                else
                  if a0 = 128 then
                    some 2
                  else
                    if a0 = 129 then
                      some 3
                    else
                      some 0
theorem c_LawReader_rank {X : XT} {G : GS} {a0 : Int} {r : Int} (ha0 : wr a0 = a0) (h : f_LawReader_rank G a0 = some r) : Call X true 6 0 0 M_LawReader_rank [vi a0] NC G (Ri r G) := by
  refine Call_of_J cw_LawReader_rank (by decide +kernel) (Nat.le_of_ble_eq_true rfl) ?_
  unfold f_LawReader_rank at h
  show J X true 6 0 0 M_LawReader_rank (Ri r G) NC 0 0 0 [(0, vi a0)] [] G
  refine j_iloadn (k := 0) (D_LawReader_rank 0 rfl) rfl rfl ?_
  by_cases c1 : a0 = 42
  · replace h := ite_t h c1
    refine j_lIn (tgt := 102) (D_LawReader_rank 1 rfl) (ha0) c1 rfl rfl rfl ?_
    refine j_bipush (v := 6) (D_LawReader_rank 12 rfl) rfl ?_
    exact j_iret (D_LawReader_rank 13 rfl) rfl (wr_lit rfl) rfl rfl (leafIo h (wr_n (wr_lit rfl)))
  · replace h := ite_f h c1
    by_cases c2 : a0 = 43
    · replace h := ite_t h c2
      refine j_lIn (tgt := 100) (D_LawReader_rank 1 rfl) (ha0) c2 rfl rfl rfl ?_
      refine j_iconst (v := 5) (D_LawReader_rank 10 rfl) rfl ?_
      exact j_iret (D_LawReader_rank 11 rfl) rfl (wr_lit rfl) rfl rfl (leafIo h (wr_n (wr_lit rfl)))
    · replace h := ite_f h c2
      by_cases c3 : a0 = 45
      · replace h := ite_t h c3
        refine j_lIn (tgt := 100) (D_LawReader_rank 1 rfl) (ha0) c3 rfl rfl rfl ?_
        refine j_iconst (v := 5) (D_LawReader_rank 10 rfl) rfl ?_
        exact j_iret (D_LawReader_rank 11 rfl) rfl (wr_lit rfl) rfl rfl (leafIo h (wr_n (wr_lit rfl)))
      · replace h := ite_f h c3
        by_cases c4 : a0 = 47
        · replace h := ite_t h c4
          refine j_lIn (tgt := 102) (D_LawReader_rank 1 rfl) (ha0) c4 rfl rfl rfl ?_
          refine j_bipush (v := 6) (D_LawReader_rank 12 rfl) rfl ?_
          exact j_iret (D_LawReader_rank 13 rfl) rfl (wr_lit rfl) rfl rfl (leafIo h (wr_n (wr_lit rfl)))
        · replace h := ite_f h c4
          by_cases c5 : a0 = 60
          · replace h := ite_t h c5
            refine j_lIn (tgt := 98) (D_LawReader_rank 1 rfl) (ha0) c5 rfl rfl rfl ?_
            refine j_iconst (v := 4) (D_LawReader_rank 8 rfl) rfl ?_
            exact j_iret (D_LawReader_rank 9 rfl) rfl (wr_lit rfl) rfl rfl (leafIo h (wr_n (wr_lit rfl)))
          · replace h := ite_f h c5
            by_cases c6 : a0 = 61
            · replace h := ite_t h c6
              refine j_lIn (tgt := 98) (D_LawReader_rank 1 rfl) (ha0) c6 rfl rfl rfl ?_
              refine j_iconst (v := 4) (D_LawReader_rank 8 rfl) rfl ?_
              exact j_iret (D_LawReader_rank 9 rfl) rfl (wr_lit rfl) rfl rfl (leafIo h (wr_n (wr_lit rfl)))
            · replace h := ite_f h c6
              by_cases c7 : a0 = 62
              · replace h := ite_t h c7
                refine j_lIn (tgt := 98) (D_LawReader_rank 1 rfl) (ha0) c7 rfl rfl rfl ?_
                refine j_iconst (v := 4) (D_LawReader_rank 8 rfl) rfl ?_
                exact j_iret (D_LawReader_rank 9 rfl) rfl (wr_lit rfl) rfl rfl (leafIo h (wr_n (wr_lit rfl)))
              · replace h := ite_f h c7
                by_cases c8 : a0 = 127
                · replace h := ite_t h c8
                  refine j_lIn (tgt := 92) (D_LawReader_rank 1 rfl) (ha0) c8 rfl rfl rfl ?_
                  refine j_iconst (v := 1) (D_LawReader_rank 2 rfl) rfl ?_
                  exact j_iret (D_LawReader_rank 3 rfl) rfl (wr_lit rfl) rfl rfl (leafIo h (wr_n (wr_lit rfl)))
                · replace h := ite_f h c8
                  by_cases c9 : a0 = 128
                  · replace h := ite_t h c9
                    refine j_lIn (tgt := 94) (D_LawReader_rank 1 rfl) (ha0) c9 rfl rfl rfl ?_
                    refine j_iconst (v := 2) (D_LawReader_rank 4 rfl) rfl ?_
                    exact j_iret (D_LawReader_rank 5 rfl) rfl (wr_lit rfl) rfl rfl (leafIo h (wr_n (wr_lit rfl)))
                  · replace h := ite_f h c9
                    by_cases c10 : a0 = 129
                    · replace h := ite_t h c10
                      refine j_lIn (tgt := 96) (D_LawReader_rank 1 rfl) (ha0) c10 rfl rfl rfl ?_
                      refine j_iconst (v := 3) (D_LawReader_rank 6 rfl) rfl ?_
                      exact j_iret (D_LawReader_rank 7 rfl) rfl (wr_lit rfl) rfl rfl (leafIo h (wr_n (wr_lit rfl)))
                    · replace h := ite_f h c10
                      refine j_lOut (tgt := 105) (D_LawReader_rank 1 rfl) (ha0) rfl (by simp [c1, c2, c3, c4, c5, c6, c7, c8, c9, c10]) rfl ?_
                      refine j_iconst (v := 0) (D_LawReader_rank 14 rfl) rfl ?_
                      exact j_iret (D_LawReader_rank 15 rfl) rfl (wr_lit rfl) rfl rfl (leafIo h (wr_n (wr_lit rfl)))
abbrev M_LawReader_settle : MI := (⟨"InquestHall$LawReader", "settle", "(I)V"⟩, prog_6_method_19_code, 3, none)
theorem cw_LawReader_settle : Cond.code M_LawReader_settle.1 M_LawReader_settle.2.1 M_LawReader_settle.2.2.1 M_LawReader_settle.2.2.2 ∈ TS := mTS (List.mem_of_getElem? (i := 889) (by decide +kernel)) (by decide +kernel)
theorem lk_LawReader_147 : Cond.methodLink "InquestHall$LawReader" 147 M_LawReader_rank.1 ∈ TS := mTS (List.mem_of_getElem? (i := 883) (by decide +kernel)) (by decide +kernel)
theorem sok_LawReader_rank : SOK M_LawReader_rank 1 := ⟨mTS (List.mem_of_getElem? (i := 884) (by decide +kernel)) (by decide +kernel), mTS (List.mem_of_getElem? (i := 130) (by decide +kernel)) (by decide +kernel), cw_LawReader_rank, ⟨by decide, by decide, by decide +kernel⟩, by decide +kernel, by decide⟩
def tb_LawReader_settle : List (Nat × Instr × Nat) := [(0, .aload_n 0, 1), (1, .getfield 123, 3), (4, .iconst 1, 1), (5, .isub, 1), (6, .istore_n 2, 1), (7, .iload_n 2, 1), (8, .ifCond .lt 41, 3), (11, .aload_n 0, 1), (12, .getfield 9, 3), (15, .iload_n 2, 1), (16, .iaload, 1), (17, .invokestatic 147, 3), (20, .iload_n 1, 1), (21, .if_icmp .lt 28, 3), (24, .aload_n 0, 1), (25, .getfield 19, 3), (28, .aload_n 0, 1), (29, .getfield 9, 3), (32, .iload_n 2, 1), (33, .iaload, 1), (34, .ineg, 1), (35, .invokevirtual 116, 3), (38, .aload_n 0, 1), (39, .iload_n 2, 1), (40, .putfield 123, 3), (43, .iinc 2 (-1), 3), (46, .goto (-39), 3), (49, .return_, 1)]
theorem D_LawReader_settle (i : Nat) {pc len : Nat} {ins : Instr} (hi : tb_LawReader_settle[i]? = some (pc, ins, len)) : decode M_LawReader_settle.2.1 pc = .ok (ins, len) := dec_of (by decide +kernel) i hi
def f_LawReader_settle_L7 : Nat → GS → Int → Int → Option (GS)
  | 0, _, _, _ => none
  | n + 1, G, x1, x2 =>
    if x2 < 0 then
      some G
    else
      gd (0 ≤ x2 ∧ x2 < 64) <|
      (f_LawReader_rank G (gi G 22 x2.toNat)).bind fun q1 =>
      if q1 < x1 then
        some G
      else
        gd (lawC (gp G 21 1) = true) <|
        gd (0 ≤ x2 ∧ x2 < 64) <|
        (f_Law_put G (gp G 21 1) (wr (-(gi G 22 x2.toNat)))).bind fun q2 =>
        wG (si q2 21 3 x2) fun G1 =>
        f_LawReader_settle_L7 n G1 x1 (wr (x2 + (-1)))
theorem s_LawReader_settle_L7 {X : XT} {r : GS} : ∀ (n : Nat) {G : GS} {x1 : Int} {x2 : Int}, wr x1 = x1 → wr x2 = x2 → f_LawReader_settle_L7 n G x1 x2 = some r → J X true 7 0 0 M_LawReader_settle (Rv r) NC 0 0 7 [(0, rf X 21), (1, vi x1), (2, vi x2)] [] G := by
  intro n
  induction n with
  | zero =>
    intro G x1 x2 hx1 hx2 h
    exact none_some h
  | succ n ih =>
    intro G x1 x2 hx1 hx2 h
    rw [f_LawReader_settle_L7] at h
    refine j_iloadn (k := 2) (D_LawReader_settle 5 rfl) rfl rfl ?_
    refine j_if_lt (tgt := 49) (D_LawReader_settle 6 rfl) rfl (hx2) (fun c1 => ?_) (fun c1 => ?_)
    · replace h := ite_t h c1
      exact j_vret (D_LawReader_settle 27 rfl) rfl rfl rfl (leafV h)
    · replace h := ite_f h c1
      refine j_aloadn (k := 0) (D_LawReader_settle 7 rfl) rfl rfl ?_
      refine j_getR rfl fa_LawReader_9 kd_21 lc_21 (by decide) rfl fx_21_2 (by decide) (D_LawReader_settle 8 rfl) ?_
      refine j_iloadn (k := 2) (D_LawReader_settle 9 rfl) rfl rfl ?_
      have g1 := gd_c h
      replace h := gd_s h
      refine j_iald (NI := 64) (D_LawReader_settle 10 rfl) kd_22 lc_22 (hx2) rfl g1.1 g1.2 ?_
      obtain ⟨q1, e1, h⟩ := Option.bind_eq_some_iff.mp h
      refine j_cSi (c_LawReader_rank (wr_gi _ _ _) e1) rfl lk_LawReader_147 sok_LawReader_rank (by decide) rfl rfl (Nat.le_of_ble_eq_true rfl) (D_LawReader_settle 11 rfl) (fun w1 => ?_)
      refine j_iloadn (k := 1) (D_LawReader_settle 12 rfl) rfl rfl ?_
      refine j_ic_lt (tgt := 49) (D_LawReader_settle 13 rfl) rfl (w1) (hx1) (fun c2 => ?_) (fun c2 => ?_)
      · replace h := ite_t h c2
        exact j_vret (D_LawReader_settle 27 rfl) rfl rfl rfl (leafV h)
      · replace h := ite_f h c2
        refine j_aloadn (k := 0) (D_LawReader_settle 14 rfl) rfl rfl ?_
        have g2 := gd_c h
        replace h := gd_s h
        refine j_getR rfl fa_LawReader_19 kd_21 lc_21 (by decide) rfl (fun _ => rfl) (law_kd g2).2.2 (D_LawReader_settle 15 rfl) ?_
        refine j_aloadn (k := 0) (D_LawReader_settle 16 rfl) rfl rfl ?_
        refine j_getR rfl fa_LawReader_9 kd_21 lc_21 (by decide) rfl fx_21_2 (by decide) (D_LawReader_settle 17 rfl) ?_
        refine j_iloadn (k := 2) (D_LawReader_settle 18 rfl) rfl rfl ?_
        have g3 := gd_c h
        replace h := gd_s h
        refine j_iald (NI := 64) (D_LawReader_settle 19 rfl) kd_22 lc_22 (hx2) rfl g3.1 g3.2 ?_
        refine j_ineg (D_LawReader_settle 20 rfl) ?_
        refine j_top0 (rfl) ?_
        obtain ⟨q2, e2, h⟩ := Option.bind_eq_some_iff.mp h
        refine j_cVv (c_Law_put g2 (wr_wr _) e2) rfl lk_LawReader_116 mok_Law_put (law_kd g2).1 (law_kd g2).2.1 rfl (by decide) rfl rfl (Nat.le_of_ble_eq_true rfl) (D_LawReader_settle 21 rfl) ?_
        refine j_aloadn (k := 0) (D_LawReader_settle 22 rfl) rfl rfl ?_
        refine j_iloadn (k := 2) (D_LawReader_settle 23 rfl) rfl rfl ?_
        refine j_putI rfl fa_LawReader_123 kd_21 lc_21 (by decide) rfl (D_LawReader_settle 24 rfl) ?_
        refine j_gen (fun G1 e3 => ?_)
        replace h := wG_at h e3
        refine j_iinc (k := 2) (L' := [(2, vi (wr (x2 + (-1)))), (0, rf X 21), (1, vi x1)]) (D_LawReader_settle 25 rfl) rfl rfl (by decide) rfl ?_
        refine j_goto (tgt := 7) (D_LawReader_settle 26 rfl) rfl ?_
        refine j_loc [1, 2, 0] rfl ?_
        exact ih (hx1) (wr_wr _) h
def f_LawReader_settle (G : GS) (a1 : Int) : Option (GS) :=
  f_LawReader_settle_L7 FU G a1 (wr ((gi G 21 3) - 1))
theorem c_LawReader_settle {X : XT} {G : GS} {a1 : Int} {r : GS} (ha1 : wr a1 = a1) (h : f_LawReader_settle G a1 = some r) : Call X true 7 0 0 M_LawReader_settle [rf X 21, vi a1] NC G (Rv r) := by
  refine Call_of_J cw_LawReader_settle (by decide +kernel) (Nat.le_of_ble_eq_true rfl) ?_
  unfold f_LawReader_settle at h
  show J X true 7 0 0 M_LawReader_settle (Rv r) NC 0 0 0 [(0, rf X 21), (1, vi a1)] [] G
  refine j_aloadn (k := 0) (D_LawReader_settle 0 rfl) rfl rfl ?_
  refine j_getI rfl fa_LawReader_123 kd_21 lc_21 (by decide) rfl (D_LawReader_settle 1 rfl) ?_
  refine j_iconst (v := 1) (D_LawReader_settle 2 rfl) rfl ?_
  refine j_isub (D_LawReader_settle 3 rfl) ?_
  refine j_istoren (L' := [(2, vi (wr ((gi G 21 3) - 1))), (0, rf X 21), (1, vi a1)]) (D_LawReader_settle 4 rfl) rfl (rfl) (by decide) rfl ?_
  refine j_loc [1, 2, 0] rfl ?_
  exact s_LawReader_settle_L7 FU (ha1) (wr_wr _) h
