/-! printed by wip/whole/gen.py out of the listing of the bytecode -/
abbrev M_Hall_days : MI := (⟨"InquestHall", "days", "(I)I"⟩, prog_1_method_2_code, 2, (some .int))
theorem cw_Hall_days : Cond.code M_Hall_days.1 M_Hall_days.2.1 M_Hall_days.2.2.1 M_Hall_days.2.2.2 ∈ TS := mTS (List.mem_of_getElem? (i := 641) (by decide +kernel)) (by decide +kernel)
theorem fa_Hall_104 : FA "InquestHall" 104 0 14 false .int := ⟨_, _, _, _, ok_Hall, by decide, mTS (List.mem_of_getElem? (i := 606) (by decide +kernel)) (by decide +kernel), rfl, rfl⟩
theorem kd_0 : kd 0 = (0 + 5, 15) := rfl
theorem lc_0 : 0 < NC := by decide
def tb_Hall_days : List (Nat × Instr × Nat) := [(0, .iload_n 1, 1), (1, .iconst 1, 1), (2, .if_icmp .lt 22, 3), (5, .iload_n 1, 1), (6, .sipush 9999, 3), (9, .if_icmp .gt 15, 3), (12, .aload_n 0, 1), (13, .getfield 104, 3), (16, .iload_n 1, 1), (17, .iadd, 1), (18, .sipush 29999, 3), (21, .if_icmp .le 5, 3), (24, .iconst (-1), 1), (25, .ireturn, 1), (26, .aload_n 0, 1), (27, .dup, 1), (28, .getfield 104, 3), (31, .iload_n 1, 1), (32, .iadd, 1), (33, .putfield 104, 3), (36, .aload_n 0, 1), (37, .getfield 104, 3), (40, .ireturn, 1)]
theorem D_Hall_days (i : Nat) {pc len : Nat} {ins : Instr} (hi : tb_Hall_days[i]? = some (pc, ins, len)) : decode M_Hall_days.2.1 pc = .ok (ins, len) := dec_of (by decide +kernel) i hi
def f_Hall_days (G : GS) (a1 : Int) : Option (Int × GS) :=
  if a1 < 1 then
    some ((-1), G)
  else
    if 9999 < a1 then
      some ((-1), G)
    else
      if wr ((gi G 0 14) + a1) ≤ 29999 then
        wG (si G 0 14 ((gi G 0 14) + a1)) fun G1 =>
        some (gi G1 0 14, G1)
      else
        some ((-1), G)
theorem c_Hall_days {X : XT} {G : GS} {a1 : Int} {r : Int × GS} (ha1 : wr a1 = a1) (h : f_Hall_days G a1 = some r) : Call X true 6 0 0 M_Hall_days [rf X 0, vi a1] NC G (Ri r.1 r.2) := by
  refine Call_of_J cw_Hall_days (by decide +kernel) (Nat.le_of_ble_eq_true rfl) ?_
  unfold f_Hall_days at h
  show J X true 6 0 0 M_Hall_days (Ri r.1 r.2) NC 0 0 0 [(0, rf X 0), (1, vi a1)] [] G
  refine j_iloadn (k := 1) (D_Hall_days 0 rfl) rfl rfl ?_
  refine j_iconst (v := 1) (D_Hall_days 1 rfl) rfl ?_
  refine j_ic_lt (tgt := 24) (D_Hall_days 2 rfl) rfl (ha1) (wr_lit rfl) (fun c1 => ?_) (fun c1 => ?_)
  · replace h := ite_t h c1
    refine j_iconst (v := (-1)) (D_Hall_days 12 rfl) rfl ?_
    exact j_iret (D_Hall_days 13 rfl) rfl (wr_lit rfl) rfl rfl (leafI h (wr_n (wr_lit rfl)))
  · replace h := ite_f h c1
    refine j_iloadn (k := 1) (D_Hall_days 3 rfl) rfl rfl ?_
    refine j_sipush (v := 9999) (D_Hall_days 4 rfl) rfl ?_
    refine j_ic_gt (tgt := 24) (D_Hall_days 5 rfl) rfl (ha1) (wr_lit rfl) (fun c2 => ?_) (fun c2 => ?_)
    · replace h := ite_t h c2
      refine j_iconst (v := (-1)) (D_Hall_days 12 rfl) rfl ?_
      exact j_iret (D_Hall_days 13 rfl) rfl (wr_lit rfl) rfl rfl (leafI h (wr_n (wr_lit rfl)))
    · replace h := ite_f h c2
      refine j_aloadn (k := 0) (D_Hall_days 6 rfl) rfl rfl ?_
      refine j_getI rfl fa_Hall_104 kd_0 lc_0 (by decide) rfl (D_Hall_days 7 rfl) ?_
      refine j_iloadn (k := 1) (D_Hall_days 8 rfl) rfl rfl ?_
      refine j_iadd (D_Hall_days 9 rfl) ?_
      refine j_sipush (v := 29999) (D_Hall_days 10 rfl) rfl ?_
      refine j_ic_le (tgt := 26) (D_Hall_days 11 rfl) rfl (rfl) (wr_lit rfl) (fun c3 => ?_) (fun c3 => ?_)
      · replace h := ite_t h c3
        refine j_aloadn (k := 0) (D_Hall_days 14 rfl) rfl rfl ?_
        refine j_dup (D_Hall_days 15 rfl) rfl ?_
        refine j_getI rfl fa_Hall_104 kd_0 lc_0 (by decide) rfl (D_Hall_days 16 rfl) ?_
        refine j_iloadn (k := 1) (D_Hall_days 17 rfl) rfl rfl ?_
        refine j_iadd (D_Hall_days 18 rfl) ?_
        refine j_putI rfl fa_Hall_104 kd_0 lc_0 (by decide) rfl (D_Hall_days 19 rfl) ?_
        refine j_gen (fun G1 e1 => ?_)
        replace h := wG_at h e1
        refine j_aloadn (k := 0) (D_Hall_days 20 rfl) rfl rfl ?_
        refine j_getI rfl fa_Hall_104 kd_0 lc_0 (by decide) rfl (D_Hall_days 21 rfl) ?_
        exact j_iret (D_Hall_days 22 rfl) rfl (wr_gi _ _ _) rfl rfl (leafI h (wr_n (wr_gi _ _ _)))
      · replace h := ite_f h c3
        refine j_iconst (v := (-1)) (D_Hall_days 12 rfl) rfl ?_
        exact j_iret (D_Hall_days 13 rfl) rfl (wr_lit rfl) rfl rfl (leafI h (wr_n (wr_lit rfl)))
abbrev M_Model_isIn : MI := (⟨"InquestHallModel", "isIn", "(III)Z"⟩, prog_14_method_2_code, 3, (some .boolean))
theorem cw_Model_isIn : Cond.code M_Model_isIn.1 M_Model_isIn.2.1 M_Model_isIn.2.2.1 M_Model_isIn.2.2.2 ∈ TS := mTS (List.mem_of_getElem? (i := 1570) (by decide +kernel)) (by decide +kernel)
def tb_Model_isIn : List (Nat × Instr × Nat) := [(0, .iload_n 0, 1), (1, .iload_n 1, 1), (2, .if_icmp .lt 12, 3), (5, .iload_n 0, 1), (6, .iload_n 2, 1), (7, .if_icmp .gt 7, 3), (10, .iconst 1, 1), (11, .goto 4, 3), (14, .iconst 0, 1), (15, .ireturn, 1)]
theorem D_Model_isIn (i : Nat) {pc len : Nat} {ins : Instr} (hi : tb_Model_isIn[i]? = some (pc, ins, len)) : decode M_Model_isIn.2.1 pc = .ok (ins, len) := dec_of (by decide +kernel) i hi
def f_Model_isIn (G : GS) (a0 : Int) (a1 : Int) (a2 : Int) : Option (Int) :=
  if a0 < a1 then
    some 0
  else
    if a2 < a0 then
      some 0
    else
      some 1
theorem c_Model_isIn {X : XT} {G : GS} {a0 : Int} {a1 : Int} {a2 : Int} {r : Int} (ha0 : wr a0 = a0) (ha1 : wr a1 = a1) (ha2 : wr a2 = a2) (h : f_Model_isIn G a0 a1 a2 = some r) : Call X true 6 0 0 M_Model_isIn [vi a0, vi a1, vi a2] NC G (Rz r G) := by
  refine Call_of_J cw_Model_isIn (by decide +kernel) (Nat.le_of_ble_eq_true rfl) ?_
  unfold f_Model_isIn at h
  show J X true 6 0 0 M_Model_isIn (Rz r G) NC 0 0 0 [(0, vi a0), (1, vi a1), (2, vi a2)] [] G
  refine j_iloadn (k := 0) (D_Model_isIn 0 rfl) rfl rfl ?_
  refine j_iloadn (k := 1) (D_Model_isIn 1 rfl) rfl rfl ?_
  refine j_ic_lt (tgt := 14) (D_Model_isIn 2 rfl) rfl (ha0) (ha1) (fun c1 => ?_) (fun c1 => ?_)
  · replace h := ite_t h c1
    refine j_iconst (v := 0) (D_Model_isIn 8 rfl) rfl ?_
    exact j_zret (D_Model_isIn 9 rfl) rfl (wr_lit rfl) (nz_01 (by decide)) rfl rfl (leafZo h (wr_n (wr_lit rfl)) (by decide))
  · replace h := ite_f h c1
    refine j_iloadn (k := 0) (D_Model_isIn 3 rfl) rfl rfl ?_
    refine j_iloadn (k := 2) (D_Model_isIn 4 rfl) rfl rfl ?_
    refine j_ic_gt (tgt := 14) (D_Model_isIn 5 rfl) rfl (ha0) (ha2) (fun c2 => ?_) (fun c2 => ?_)
    · replace h := ite_t h c2
      refine j_iconst (v := 0) (D_Model_isIn 8 rfl) rfl ?_
      exact j_zret (D_Model_isIn 9 rfl) rfl (wr_lit rfl) (nz_01 (by decide)) rfl rfl (leafZo h (wr_n (wr_lit rfl)) (by decide))
    · replace h := ite_f h c2
      refine j_iconst (v := 1) (D_Model_isIn 6 rfl) rfl ?_
      refine j_goto (tgt := 15) (D_Model_isIn 7 rfl) rfl ?_
      exact j_zret (D_Model_isIn 9 rfl) rfl (wr_lit rfl) (nz_01 (by decide)) rfl rfl (leafZo h (wr_n (wr_lit rfl)) (by decide))
abbrev M_Model_days : MI := (⟨"InquestHallModel", "days", "(I)I"⟩, prog_14_method_4_code, 2, (some .int))
theorem cw_Model_days : Cond.code M_Model_days.1 M_Model_days.2.1 M_Model_days.2.2.1 M_Model_days.2.2.2 ∈ TS := mTS (List.mem_of_getElem? (i := 1567) (by decide +kernel)) (by decide +kernel)
theorem lk_Model_188 : Cond.methodLink "InquestHallModel" 188 M_Model_isIn.1 ∈ TS := mTS (List.mem_of_getElem? (i := 1568) (by decide +kernel)) (by decide +kernel)
theorem sok_Model_isIn : SOK M_Model_isIn 3 := ⟨mTS (List.mem_of_getElem? (i := 1569) (by decide +kernel)) (by decide +kernel), mTS (List.mem_of_getElem? (i := 139) (by decide +kernel)) (by decide +kernel), cw_Model_isIn, ⟨by decide, by decide, by decide +kernel⟩, by decide +kernel, by decide⟩
theorem fa_Model_192 : FA "InquestHallModel" 192 12 0 false .int := ⟨_, _, _, _, ok_Model, by decide, mTS (List.mem_of_getElem? (i := 1301) (by decide +kernel)) (by decide +kernel), rfl, rfl⟩
theorem kd_81 : kd 81 = (12 + 5, 87) := rfl
theorem lc_81 : 81 < NC := by decide
def tb_Model_days : List (Nat × Instr × Nat) := [(0, .iload_n 1, 1), (1, .iconst 1, 1), (2, .sipush 9999, 3), (5, .invokestatic 188, 3), (8, .ifCond .eq 15, 3), (11, .aload_n 0, 1), (12, .getfield 192, 3), (15, .sipush 29999, 3), (18, .iload_n 1, 1), (19, .isub, 1), (20, .if_icmp .le 5, 3), (23, .iconst (-1), 1), (24, .ireturn, 1), (25, .aload_n 0, 1), (26, .dup, 1), (27, .getfield 192, 3), (30, .iload_n 1, 1), (31, .iadd, 1), (32, .putfield 192, 3), (35, .aload_n 0, 1), (36, .getfield 192, 3), (39, .ireturn, 1)]
theorem D_Model_days (i : Nat) {pc len : Nat} {ins : Instr} (hi : tb_Model_days[i]? = some (pc, ins, len)) : decode M_Model_days.2.1 pc = .ok (ins, len) := dec_of (by decide +kernel) i hi
def f_Model_days (G : GS) (a1 : Int) : Option (Int × GS) :=
  (f_Model_isIn G a1 1 9999).bind fun q1 =>
  if q1 = 0 then
    some ((-1), G)
  else
    if gi G 81 0 ≤ wr (29999 - a1) then
      wG (si G 81 0 ((gi G 81 0) + a1)) fun G1 =>
      some (gi G1 81 0, G1)
    else
      some ((-1), G)
theorem c_Model_days {X : XT} {G : GS} {a1 : Int} {r : Int × GS} (ha1 : wr a1 = a1) (h : f_Model_days G a1 = some r) : Call X true 7 0 0 M_Model_days [rf X 81, vi a1] NC G (Ri r.1 r.2) := by
  refine Call_of_J cw_Model_days (by decide +kernel) (Nat.le_of_ble_eq_true rfl) ?_
  unfold f_Model_days at h
  show J X true 7 0 0 M_Model_days (Ri r.1 r.2) NC 0 0 0 [(0, rf X 81), (1, vi a1)] [] G
  refine j_iloadn (k := 1) (D_Model_days 0 rfl) rfl rfl ?_
  refine j_iconst (v := 1) (D_Model_days 1 rfl) rfl ?_
  refine j_sipush (v := 9999) (D_Model_days 2 rfl) rfl ?_
  obtain ⟨q1, e1, h⟩ := Option.bind_eq_some_iff.mp h
  refine j_cSz (c_Model_isIn (ha1) (wr_lit rfl) (wr_lit rfl) e1) rfl lk_Model_188 sok_Model_isIn (by decide) rfl rfl (Nat.le_of_ble_eq_true rfl) (D_Model_days 3 rfl) (fun w1 bw1 => ?_)
  refine j_if_eq (tgt := 23) (D_Model_days 4 rfl) rfl (w1) (fun c1 => ?_) (fun c1 => ?_)
  · replace h := ite_t h c1
    refine j_iconst (v := (-1)) (D_Model_days 11 rfl) rfl ?_
    exact j_iret (D_Model_days 12 rfl) rfl (wr_lit rfl) rfl rfl (leafI h (wr_n (wr_lit rfl)))
  · replace h := ite_f h c1
    refine j_aloadn (k := 0) (D_Model_days 5 rfl) rfl rfl ?_
    refine j_getI rfl fa_Model_192 kd_81 lc_81 (by decide) rfl (D_Model_days 6 rfl) ?_
    refine j_sipush (v := 29999) (D_Model_days 7 rfl) rfl ?_
    refine j_iloadn (k := 1) (D_Model_days 8 rfl) rfl rfl ?_
    refine j_isub (D_Model_days 9 rfl) ?_
    refine j_ic_le (tgt := 25) (D_Model_days 10 rfl) rfl (wr_gi _ _ _) (rfl) (fun c2 => ?_) (fun c2 => ?_)
    · replace h := ite_t h c2
      refine j_aloadn (k := 0) (D_Model_days 13 rfl) rfl rfl ?_
      refine j_dup (D_Model_days 14 rfl) rfl ?_
      refine j_getI rfl fa_Model_192 kd_81 lc_81 (by decide) rfl (D_Model_days 15 rfl) ?_
      refine j_iloadn (k := 1) (D_Model_days 16 rfl) rfl rfl ?_
      refine j_iadd (D_Model_days 17 rfl) ?_
      refine j_putI rfl fa_Model_192 kd_81 lc_81 (by decide) rfl (D_Model_days 18 rfl) ?_
      refine j_gen (fun G1 e2 => ?_)
      replace h := wG_at h e2
      refine j_aloadn (k := 0) (D_Model_days 19 rfl) rfl rfl ?_
      refine j_getI rfl fa_Model_192 kd_81 lc_81 (by decide) rfl (D_Model_days 20 rfl) ?_
      exact j_iret (D_Model_days 21 rfl) rfl (wr_gi _ _ _) rfl rfl (leafI h (wr_n (wr_gi _ _ _)))
    · replace h := ite_f h c2
      refine j_iconst (v := (-1)) (D_Model_days 11 rfl) rfl ?_
      exact j_iret (D_Model_days 12 rfl) rfl (wr_lit rfl) rfl rfl (leafI h (wr_n (wr_lit rfl)))
abbrev M_People_has : MI := (⟨"InquestHall$People", "has", "(I)Z"⟩, prog_8_method_3_code, 2, (some .boolean))
theorem cw_People_has : Cond.code M_People_has.1 M_People_has.2.1 M_People_has.2.2.1 M_People_has.2.2.2 ∈ TS := mTS (List.mem_of_getElem? (i := 653) (by decide +kernel)) (by decide +kernel)
theorem fa_People_33 : FA "InquestHall$People" 33 1 7 false .int := ⟨_, _, _, _, ok_People, by decide, mTS (List.mem_of_getElem? (i := 174) (by decide +kernel)) (by decide +kernel), rfl, rfl⟩
theorem kd_1 : kd 1 = (1 + 5, 8) := rfl
theorem lc_1 : 1 < NC := by decide
def tb_People_has : List (Nat × Instr × Nat) := [(0, .iload_n 1, 1), (1, .ifCond .lt 15, 3), (4, .iload_n 1, 1), (5, .aload_n 0, 1), (6, .getfield 33, 3), (9, .if_icmp .ge 7, 3), (12, .iconst 1, 1), (13, .goto 4, 3), (16, .iconst 0, 1), (17, .ireturn, 1)]
theorem D_People_has (i : Nat) {pc len : Nat} {ins : Instr} (hi : tb_People_has[i]? = some (pc, ins, len)) : decode M_People_has.2.1 pc = .ok (ins, len) := dec_of (by decide +kernel) i hi
def f_People_has (G : GS) (a1 : Int) : Option (Int) :=
  if a1 < 0 then
    some 0
  else
    if gi G 1 7 ≤ a1 then
      some 0
    else
      some 1
theorem c_People_has {X : XT} {G : GS} {a1 : Int} {r : Int} (ha1 : wr a1 = a1) (h : f_People_has G a1 = some r) : Call X true 6 0 0 M_People_has [rf X 1, vi a1] NC G (Rz r G) := by
  refine Call_of_J cw_People_has (by decide +kernel) (Nat.le_of_ble_eq_true rfl) ?_
  unfold f_People_has at h
  show J X true 6 0 0 M_People_has (Rz r G) NC 0 0 0 [(0, rf X 1), (1, vi a1)] [] G
  refine j_iloadn (k := 1) (D_People_has 0 rfl) rfl rfl ?_
  refine j_if_lt (tgt := 16) (D_People_has 1 rfl) rfl (ha1) (fun c1 => ?_) (fun c1 => ?_)
  · replace h := ite_t h c1
    refine j_iconst (v := 0) (D_People_has 8 rfl) rfl ?_
    exact j_zret (D_People_has 9 rfl) rfl (wr_lit rfl) (nz_01 (by decide)) rfl rfl (leafZo h (wr_n (wr_lit rfl)) (by decide))
  · replace h := ite_f h c1
    refine j_iloadn (k := 1) (D_People_has 2 rfl) rfl rfl ?_
    refine j_aloadn (k := 0) (D_People_has 3 rfl) rfl rfl ?_
    refine j_getI rfl fa_People_33 kd_1 lc_1 (by decide) rfl (D_People_has 4 rfl) ?_
    refine j_ic_ge (tgt := 16) (D_People_has 5 rfl) rfl (ha1) (wr_gi _ _ _) (fun c2 => ?_) (fun c2 => ?_)
    · replace h := ite_t h c2
      refine j_iconst (v := 0) (D_People_has 8 rfl) rfl ?_
      exact j_zret (D_People_has 9 rfl) rfl (wr_lit rfl) (nz_01 (by decide)) rfl rfl (leafZo h (wr_n (wr_lit rfl)) (by decide))
    · replace h := ite_f h c2
      refine j_iconst (v := 1) (D_People_has 6 rfl) rfl ?_
      refine j_goto (tgt := 17) (D_People_has 7 rfl) rfl ?_
      exact j_zret (D_People_has 9 rfl) rfl (wr_lit rfl) (nz_01 (by decide)) rfl rfl (leafZo h (wr_n (wr_lit rfl)) (by decide))
abbrev M_People_isMan : MI := (⟨"InquestHall$People", "isMan", "(I)Z"⟩, prog_8_method_4_code, 2, (some .boolean))
theorem cw_People_isMan : Cond.code M_People_isMan.1 M_People_isMan.2.1 M_People_isMan.2.2.1 M_People_isMan.2.2.2 ∈ TS := mTS (List.mem_of_getElem? (i := 649) (by decide +kernel)) (by decide +kernel)
theorem lk_People_37 : Cond.methodLink "InquestHall$People" 37 M_People_has.1 ∈ TS := mTS (List.mem_of_getElem? (i := 650) (by decide +kernel)) (by decide +kernel)
theorem mok_People_has : MOK M_People_has 1 := ⟨mTS (List.mem_of_getElem? (i := 651) (by decide +kernel)) (by decide +kernel), mTS (List.mem_of_getElem? (i := 652) (by decide +kernel)) (by decide +kernel), mTS (List.mem_of_getElem? (i := 123) (by decide +kernel)) (by decide +kernel), cw_People_has, ⟨by decide, by decide, by decide +kernel⟩, by decide +kernel, by decide⟩
theorem fa_People_11 : FA "InquestHall$People" 11 1 0 true (.array .int) := ⟨_, _, _, _, ok_People, by decide, mTS (List.mem_of_getElem? (i := 156) (by decide +kernel)) (by decide +kernel), rfl, rfl⟩
theorem fx_1_0 {G : GS} (w : WF true NC G) : G.2.2 1 0 = 2 := w.2 rfl (1, 0, 2) (by decide)
theorem kd_2 : kd 2 = (0, 32) := rfl
theorem lc_2 : 2 < NC := by decide
def tb_People_isMan : List (Nat × Instr × Nat) := [(0, .aload_n 0, 1), (1, .iload_n 1, 1), (2, .invokevirtual 37, 3), (5, .ifCond .eq 16, 3), (8, .aload_n 0, 1), (9, .getfield 11, 3), (12, .iload_n 1, 1), (13, .iaload, 1), (14, .ifCond .ne 7, 3), (17, .iconst 1, 1), (18, .goto 4, 3), (21, .iconst 0, 1), (22, .ireturn, 1)]
theorem D_People_isMan (i : Nat) {pc len : Nat} {ins : Instr} (hi : tb_People_isMan[i]? = some (pc, ins, len)) : decode M_People_isMan.2.1 pc = .ok (ins, len) := dec_of (by decide +kernel) i hi
def f_People_isMan (G : GS) (a1 : Int) : Option (Int) :=
  (f_People_has G a1).bind fun q1 =>
  if q1 = 0 then
    some 0
  else
    gd (0 ≤ a1 ∧ a1 < 32) <|
    if gi G 2 a1.toNat = 0 then
      some 1
    else
      some 0
theorem c_People_isMan {X : XT} {G : GS} {a1 : Int} {r : Int} (ha1 : wr a1 = a1) (h : f_People_isMan G a1 = some r) : Call X true 7 0 0 M_People_isMan [rf X 1, vi a1] NC G (Rz r G) := by
  refine Call_of_J cw_People_isMan (by decide +kernel) (Nat.le_of_ble_eq_true rfl) ?_
  unfold f_People_isMan at h
  show J X true 7 0 0 M_People_isMan (Rz r G) NC 0 0 0 [(0, rf X 1), (1, vi a1)] [] G
  refine j_aloadn (k := 0) (D_People_isMan 0 rfl) rfl rfl ?_
  refine j_iloadn (k := 1) (D_People_isMan 1 rfl) rfl rfl ?_
  obtain ⟨q1, e1, h⟩ := Option.bind_eq_some_iff.mp h
  refine j_cVz (c_People_has (ha1) e1) rfl lk_People_37 mok_People_has kd_1 lc_1 rfl (by decide) rfl rfl (Nat.le_of_ble_eq_true rfl) (D_People_isMan 2 rfl) (fun w1 bw1 => ?_)
  refine j_if_eq (tgt := 21) (D_People_isMan 3 rfl) rfl (w1) (fun c1 => ?_) (fun c1 => ?_)
  · replace h := ite_t h c1
    refine j_iconst (v := 0) (D_People_isMan 11 rfl) rfl ?_
    exact j_zret (D_People_isMan 12 rfl) rfl (wr_lit rfl) (nz_01 (by decide)) rfl rfl (leafZo h (wr_n (wr_lit rfl)) (by decide))
  · replace h := ite_f h c1
    refine j_aloadn (k := 0) (D_People_isMan 4 rfl) rfl rfl ?_
    refine j_getR rfl fa_People_11 kd_1 lc_1 (by decide) rfl fx_1_0 (by decide) (D_People_isMan 5 rfl) ?_
    refine j_iloadn (k := 1) (D_People_isMan 6 rfl) rfl rfl ?_
    have g1 := gd_c h
    replace h := gd_s h
    refine j_iald (NI := 32) (D_People_isMan 7 rfl) kd_2 lc_2 (ha1) rfl g1.1 g1.2 ?_
    refine j_if_ne (tgt := 21) (D_People_isMan 8 rfl) rfl (wr_gi _ _ _) (fun c2 => ?_) (fun c2 => ?_)
    · replace h := ite_f h c2
      refine j_iconst (v := 0) (D_People_isMan 11 rfl) rfl ?_
      exact j_zret (D_People_isMan 12 rfl) rfl (wr_lit rfl) (nz_01 (by decide)) rfl rfl (leafZo h (wr_n (wr_lit rfl)) (by decide))
    · replace h := ite_t h c2
      refine j_iconst (v := 1) (D_People_isMan 9 rfl) rfl ?_
      refine j_goto (tgt := 22) (D_People_isMan 10 rfl) rfl ?_
      exact j_zret (D_People_isMan 12 rfl) rfl (wr_lit rfl) (nz_01 (by decide)) rfl rfl (leafZo h (wr_n (wr_lit rfl)) (by decide))
abbrev M_People_isWoman : MI := (⟨"InquestHall$People", "isWoman", "(I)Z"⟩, prog_8_method_5_code, 2, (some .boolean))
theorem cw_People_isWoman : Cond.code M_People_isWoman.1 M_People_isWoman.2.1 M_People_isWoman.2.2.1 M_People_isWoman.2.2.2 ∈ TS := mTS (List.mem_of_getElem? (i := 657) (by decide +kernel)) (by decide +kernel)
def tb_People_isWoman : List (Nat × Instr × Nat) := [(0, .aload_n 0, 1), (1, .iload_n 1, 1), (2, .invokevirtual 37, 3), (5, .ifCond .eq 17, 3), (8, .aload_n 0, 1), (9, .getfield 11, 3), (12, .iload_n 1, 1), (13, .iaload, 1), (14, .iconst 1, 1), (15, .if_icmp .ne 7, 3), (18, .iconst 1, 1), (19, .goto 4, 3), (22, .iconst 0, 1), (23, .ireturn, 1)]
theorem D_People_isWoman (i : Nat) {pc len : Nat} {ins : Instr} (hi : tb_People_isWoman[i]? = some (pc, ins, len)) : decode M_People_isWoman.2.1 pc = .ok (ins, len) := dec_of (by decide +kernel) i hi
def f_People_isWoman (G : GS) (a1 : Int) : Option (Int) :=
  (f_People_has G a1).bind fun q1 =>
  if q1 = 0 then
    some 0
  else
    gd (0 ≤ a1 ∧ a1 < 32) <|
    if gi G 2 a1.toNat = 1 then
      some 1
    else
      some 0
theorem c_People_isWoman {X : XT} {G : GS} {a1 : Int} {r : Int} (ha1 : wr a1 = a1) (h : f_People_isWoman G a1 = some r) : Call X true 7 0 0 M_People_isWoman [rf X 1, vi a1] NC G (Rz r G) := by
  refine Call_of_J cw_People_isWoman (by decide +kernel) (Nat.le_of_ble_eq_true rfl) ?_
  unfold f_People_isWoman at h
  show J X true 7 0 0 M_People_isWoman (Rz r G) NC 0 0 0 [(0, rf X 1), (1, vi a1)] [] G
  refine j_aloadn (k := 0) (D_People_isWoman 0 rfl) rfl rfl ?_
  refine j_iloadn (k := 1) (D_People_isWoman 1 rfl) rfl rfl ?_
  obtain ⟨q1, e1, h⟩ := Option.bind_eq_some_iff.mp h
  refine j_cVz (c_People_has (ha1) e1) rfl lk_People_37 mok_People_has kd_1 lc_1 rfl (by decide) rfl rfl (Nat.le_of_ble_eq_true rfl) (D_People_isWoman 2 rfl) (fun w1 bw1 => ?_)
  refine j_if_eq (tgt := 22) (D_People_isWoman 3 rfl) rfl (w1) (fun c1 => ?_) (fun c1 => ?_)
  · replace h := ite_t h c1
    refine j_iconst (v := 0) (D_People_isWoman 12 rfl) rfl ?_
    exact j_zret (D_People_isWoman 13 rfl) rfl (wr_lit rfl) (nz_01 (by decide)) rfl rfl (leafZo h (wr_n (wr_lit rfl)) (by decide))
  · replace h := ite_f h c1
    refine j_aloadn (k := 0) (D_People_isWoman 4 rfl) rfl rfl ?_
    refine j_getR rfl fa_People_11 kd_1 lc_1 (by decide) rfl fx_1_0 (by decide) (D_People_isWoman 5 rfl) ?_
    refine j_iloadn (k := 1) (D_People_isWoman 6 rfl) rfl rfl ?_
    have g1 := gd_c h
    replace h := gd_s h
    refine j_iald (NI := 32) (D_People_isWoman 7 rfl) kd_2 lc_2 (ha1) rfl g1.1 g1.2 ?_
    refine j_iconst (v := 1) (D_People_isWoman 8 rfl) rfl ?_
    refine j_ic_ne (tgt := 22) (D_People_isWoman 9 rfl) rfl (wr_gi _ _ _) (wr_lit rfl) (fun c2 => ?_) (fun c2 => ?_)
    · replace h := ite_f h c2
      refine j_iconst (v := 0) (D_People_isWoman 12 rfl) rfl ?_
      exact j_zret (D_People_isWoman 13 rfl) rfl (wr_lit rfl) (nz_01 (by decide)) rfl rfl (leafZo h (wr_n (wr_lit rfl)) (by decide))
    · replace h := ite_t h c2
      refine j_iconst (v := 1) (D_People_isWoman 10 rfl) rfl ?_
      refine j_goto (tgt := 23) (D_People_isWoman 11 rfl) rfl ?_
      exact j_zret (D_People_isWoman 13 rfl) rfl (wr_lit rfl) (nz_01 (by decide)) rfl rfl (leafZo h (wr_n (wr_lit rfl)) (by decide))
abbrev M_Hall_isBirth : MI := (⟨"InquestHall", "isBirth", "(II)Z"⟩, prog_1_method_36_code, 3, (some .boolean))
theorem cw_Hall_isBirth : Cond.code M_Hall_isBirth.1 M_Hall_isBirth.2.1 M_Hall_isBirth.2.2.1 M_Hall_isBirth.2.2.2 ∈ TS := mTS (List.mem_of_getElem? (i := 661) (by decide +kernel)) (by decide +kernel)
def tb_Hall_isBirth : List (Nat × Instr × Nat) := [(0, .iload_n 1, 1), (1, .ifCond .lt 20, 3), (4, .iload_n 1, 1), (5, .iload_n 2, 1), (6, .if_icmp .gt 15, 3), (9, .iload_n 2, 1), (10, .aload_n 0, 1), (11, .getfield 104, 3), (14, .if_icmp .gt 7, 3), (17, .iconst 1, 1), (18, .goto 4, 3), (21, .iconst 0, 1), (22, .ireturn, 1)]
theorem D_Hall_isBirth (i : Nat) {pc len : Nat} {ins : Instr} (hi : tb_Hall_isBirth[i]? = some (pc, ins, len)) : decode M_Hall_isBirth.2.1 pc = .ok (ins, len) := dec_of (by decide +kernel) i hi
def f_Hall_isBirth (G : GS) (a1 : Int) (a2 : Int) : Option (Int) :=
  if a1 < 0 then
    some 0
  else
    if a2 < a1 then
      some 0
    else
      if gi G 0 14 < a2 then
        some 0
      else
        some 1
theorem c_Hall_isBirth {X : XT} {G : GS} {a1 : Int} {a2 : Int} {r : Int} (ha1 : wr a1 = a1) (ha2 : wr a2 = a2) (h : f_Hall_isBirth G a1 a2 = some r) : Call X true 6 0 0 M_Hall_isBirth [rf X 0, vi a1, vi a2] NC G (Rz r G) := by
  refine Call_of_J cw_Hall_isBirth (by decide +kernel) (Nat.le_of_ble_eq_true rfl) ?_
  unfold f_Hall_isBirth at h
  show J X true 6 0 0 M_Hall_isBirth (Rz r G) NC 0 0 0 [(0, rf X 0), (1, vi a1), (2, vi a2)] [] G
  refine j_iloadn (k := 1) (D_Hall_isBirth 0 rfl) rfl rfl ?_
  refine j_if_lt (tgt := 21) (D_Hall_isBirth 1 rfl) rfl (ha1) (fun c1 => ?_) (fun c1 => ?_)
  · replace h := ite_t h c1
    refine j_iconst (v := 0) (D_Hall_isBirth 11 rfl) rfl ?_
    exact j_zret (D_Hall_isBirth 12 rfl) rfl (wr_lit rfl) (nz_01 (by decide)) rfl rfl (leafZo h (wr_n (wr_lit rfl)) (by decide))
  · replace h := ite_f h c1
    refine j_iloadn (k := 1) (D_Hall_isBirth 2 rfl) rfl rfl ?_
    refine j_iloadn (k := 2) (D_Hall_isBirth 3 rfl) rfl rfl ?_
    refine j_ic_gt (tgt := 21) (D_Hall_isBirth 4 rfl) rfl (ha1) (ha2) (fun c2 => ?_) (fun c2 => ?_)
    · replace h := ite_t h c2
      refine j_iconst (v := 0) (D_Hall_isBirth 11 rfl) rfl ?_
      exact j_zret (D_Hall_isBirth 12 rfl) rfl (wr_lit rfl) (nz_01 (by decide)) rfl rfl (leafZo h (wr_n (wr_lit rfl)) (by decide))
    · replace h := ite_f h c2
      refine j_iloadn (k := 2) (D_Hall_isBirth 5 rfl) rfl rfl ?_
      refine j_aloadn (k := 0) (D_Hall_isBirth 6 rfl) rfl rfl ?_
      refine j_getI rfl fa_Hall_104 kd_0 lc_0 (by decide) rfl (D_Hall_isBirth 7 rfl) ?_
      refine j_ic_gt (tgt := 21) (D_Hall_isBirth 8 rfl) rfl (ha2) (wr_gi _ _ _) (fun c3 => ?_) (fun c3 => ?_)
      · replace h := ite_t h c3
        refine j_iconst (v := 0) (D_Hall_isBirth 11 rfl) rfl ?_
        exact j_zret (D_Hall_isBirth 12 rfl) rfl (wr_lit rfl) (nz_01 (by decide)) rfl rfl (leafZo h (wr_n (wr_lit rfl)) (by decide))
      · replace h := ite_f h c3
        refine j_iconst (v := 1) (D_Hall_isBirth 9 rfl) rfl ?_
        refine j_goto (tgt := 22) (D_Hall_isBirth 10 rfl) rfl ?_
        exact j_zret (D_Hall_isBirth 12 rfl) rfl (wr_lit rfl) (nz_01 (by decide)) rfl rfl (leafZo h (wr_n (wr_lit rfl)) (by decide))
abbrev M_People_add : MI := (⟨"InquestHall$People", "add", "(IIIII)I"⟩, prog_8_method_2_code, 6, (some .int))
theorem cw_People_add : Cond.code M_People_add.1 M_People_add.2.1 M_People_add.2.2.1 M_People_add.2.2.2 ∈ TS := mTS (List.mem_of_getElem? (i := 665) (by decide +kernel)) (by decide +kernel)
theorem fa_People_15 : FA "InquestHall$People" 15 1 1 true (.array .int) := ⟨_, _, _, _, ok_People, by decide, mTS (List.mem_of_getElem? (i := 158) (by decide +kernel)) (by decide +kernel), rfl, rfl⟩
theorem fx_1_1 {G : GS} (w : WF true NC G) : G.2.2 1 1 = 3 := w.2 rfl (1, 1, 3) (by decide)
theorem kd_3 : kd 3 = (0, 32) := rfl
theorem lc_3 : 3 < NC := by decide
theorem fa_People_18 : FA "InquestHall$People" 18 1 2 true (.array .int) := ⟨_, _, _, _, ok_People, by decide, mTS (List.mem_of_getElem? (i := 161) (by decide +kernel)) (by decide +kernel), rfl, rfl⟩
theorem fx_1_2 {G : GS} (w : WF true NC G) : G.2.2 1 2 = 4 := w.2 rfl (1, 2, 4) (by decide)
theorem kd_4 : kd 4 = (0, 32) := rfl
theorem lc_4 : 4 < NC := by decide
theorem fa_People_21 : FA "InquestHall$People" 21 1 3 true (.array .int) := ⟨_, _, _, _, ok_People, by decide, mTS (List.mem_of_getElem? (i := 164) (by decide +kernel)) (by decide +kernel), rfl, rfl⟩
theorem fx_1_3 {G : GS} (w : WF true NC G) : G.2.2 1 3 = 5 := w.2 rfl (1, 3, 5) (by decide)
theorem kd_5 : kd 5 = (0, 32) := rfl
theorem lc_5 : 5 < NC := by decide
theorem fa_People_24 : FA "InquestHall$People" 24 1 4 true (.array .int) := ⟨_, _, _, _, ok_People, by decide, mTS (List.mem_of_getElem? (i := 167) (by decide +kernel)) (by decide +kernel), rfl, rfl⟩
theorem fx_1_4 {G : GS} (w : WF true NC G) : G.2.2 1 4 = 6 := w.2 rfl (1, 4, 6) (by decide)
theorem kd_6 : kd 6 = (0, 32) := rfl
theorem lc_6 : 6 < NC := by decide
theorem fa_People_27 : FA "InquestHall$People" 27 1 5 true (.array .int) := ⟨_, _, _, _, ok_People, by decide, mTS (List.mem_of_getElem? (i := 170) (by decide +kernel)) (by decide +kernel), rfl, rfl⟩
theorem fx_1_5 {G : GS} (w : WF true NC G) : G.2.2 1 5 = 7 := w.2 rfl (1, 5, 7) (by decide)
theorem kd_7 : kd 7 = (0, 32) := rfl
theorem lc_7 : 7 < NC := by decide
theorem fa_People_30 : FA "InquestHall$People" 30 1 6 true (.array .int) := ⟨_, _, _, _, ok_People, by decide, mTS (List.mem_of_getElem? (i := 172) (by decide +kernel)) (by decide +kernel), rfl, rfl⟩
theorem fx_1_6 {G : GS} (w : WF true NC G) : G.2.2 1 6 = 8 := w.2 rfl (1, 6, 8) (by decide)
theorem kd_8 : kd 8 = (0, 32) := rfl
theorem lc_8 : 8 < NC := by decide
def tb_People_add : List (Nat × Instr × Nat) := [(0, .aload_n 0, 1), (1, .getfield 33, 3), (4, .bipush 32, 2), (6, .if_icmp .lt 5, 3), (9, .iconst (-1), 1), (10, .ireturn, 1), (11, .aload_n 0, 1), (12, .getfield 11, 3), (15, .aload_n 0, 1), (16, .getfield 33, 3), (19, .iload_n 1, 1), (20, .iastore, 1), (21, .aload_n 0, 1), (22, .getfield 15, 3), (25, .aload_n 0, 1), (26, .getfield 33, 3), (29, .iload_n 2, 1), (30, .iastore, 1), (31, .aload_n 0, 1), (32, .getfield 18, 3), (35, .aload_n 0, 1), (36, .getfield 33, 3), (39, .iload_n 3, 1), (40, .iastore, 1), (41, .aload_n 0, 1), (42, .getfield 21, 3), (45, .aload_n 0, 1), (46, .getfield 33, 3), (49, .iload 4, 2), (51, .iastore, 1), (52, .aload_n 0, 1), (53, .getfield 24, 3), (56, .aload_n 0, 1), (57, .getfield 33, 3), (60, .iload 5, 2), (62, .iastore, 1), (63, .aload_n 0, 1), (64, .getfield 27, 3), (67, .aload_n 0, 1), (68, .getfield 33, 3), (71, .iconst (-1), 1), (72, .iastore, 1), (73, .aload_n 0, 1), (74, .getfield 30, 3), (77, .aload_n 0, 1), (78, .getfield 33, 3), (81, .iconst (-1), 1), (82, .iastore, 1), (83, .aload_n 0, 1), (84, .dup, 1), (85, .getfield 33, 3), (88, .iconst 1, 1), (89, .iadd, 1), (90, .putfield 33, 3), (93, .aload_n 0, 1), (94, .getfield 33, 3), (97, .iconst 1, 1), (98, .isub, 1), (99, .ireturn, 1)]
theorem D_People_add (i : Nat) {pc len : Nat} {ins : Instr} (hi : tb_People_add[i]? = some (pc, ins, len)) : decode M_People_add.2.1 pc = .ok (ins, len) := dec_of (by decide +kernel) i hi
def f_People_add (G : GS) (a1 : Int) (a2 : Int) (a3 : Int) (a4 : Int) (a5 : Int) : Option (Int × GS) :=
  if gi G 1 7 < 32 then
    gd (0 ≤ gi G 1 7 ∧ gi G 1 7 < 32) <|
    wG (si G 2 (gi G 1 7).toNat a1) fun G1 =>
    gd (0 ≤ gi G1 1 7 ∧ gi G1 1 7 < 32) <|
    wG (si G1 3 (gi G1 1 7).toNat a2) fun G2 =>
    gd (0 ≤ gi G2 1 7 ∧ gi G2 1 7 < 32) <|
    wG (si G2 4 (gi G2 1 7).toNat a3) fun G3 =>
    gd (0 ≤ gi G3 1 7 ∧ gi G3 1 7 < 32) <|
    wG (si G3 5 (gi G3 1 7).toNat a4) fun G4 =>
    gd (0 ≤ gi G4 1 7 ∧ gi G4 1 7 < 32) <|
    wG (si G4 6 (gi G4 1 7).toNat a5) fun G5 =>
    gd (0 ≤ gi G5 1 7 ∧ gi G5 1 7 < 32) <|
    wG (si G5 7 (gi G5 1 7).toNat (-1)) fun G6 =>
    gd (0 ≤ gi G6 1 7 ∧ gi G6 1 7 < 32) <|
    wG (si G6 8 (gi G6 1 7).toNat (-1)) fun G7 =>
    wG (si G7 1 7 ((gi G7 1 7) + 1)) fun G8 =>
    some (wr ((gi G8 1 7) - 1), G8)
  else
    some ((-1), G)
theorem c_People_add {X : XT} {G : GS} {a1 : Int} {a2 : Int} {a3 : Int} {a4 : Int} {a5 : Int} {r : Int × GS} (ha1 : wr a1 = a1) (ha2 : wr a2 = a2) (ha3 : wr a3 = a3) (ha4 : wr a4 = a4) (ha5 : wr a5 = a5) (h : f_People_add G a1 a2 a3 a4 a5 = some r) : Call X true 6 0 0 M_People_add [rf X 1, vi a1, vi a2, vi a3, vi a4, vi a5] NC G (Ri r.1 r.2) := by
  refine Call_of_J cw_People_add (by decide +kernel) (Nat.le_of_ble_eq_true rfl) ?_
  unfold f_People_add at h
  show J X true 6 0 0 M_People_add (Ri r.1 r.2) NC 0 0 0 [(0, rf X 1), (1, vi a1), (2, vi a2), (3, vi a3), (4, vi a4), (5, vi a5)] [] G
  refine j_aloadn (k := 0) (D_People_add 0 rfl) rfl rfl ?_
  refine j_getI rfl fa_People_33 kd_1 lc_1 (by decide) rfl (D_People_add 1 rfl) ?_
  refine j_bipush (v := 32) (D_People_add 2 rfl) rfl ?_
  refine j_ic_lt (tgt := 11) (D_People_add 3 rfl) rfl (wr_gi _ _ _) (wr_lit rfl) (fun c1 => ?_) (fun c1 => ?_)
  · replace h := ite_t h c1
    refine j_aloadn (k := 0) (D_People_add 6 rfl) rfl rfl ?_
    refine j_getR rfl fa_People_11 kd_1 lc_1 (by decide) rfl fx_1_0 (by decide) (D_People_add 7 rfl) ?_
    refine j_aloadn (k := 0) (D_People_add 8 rfl) rfl rfl ?_
    refine j_getI rfl fa_People_33 kd_1 lc_1 (by decide) rfl (D_People_add 9 rfl) ?_
    refine j_iloadn (k := 1) (D_People_add 10 rfl) rfl rfl ?_
    have g1 := gd_c h
    replace h := gd_s h
    refine j_iast (NI := 32) (D_People_add 11 rfl) kd_2 lc_2 (wr_gi _ _ _) rfl g1.1 g1.2 ?_
    refine j_gen (fun G1 e1 => ?_)
    replace h := wG_at h e1
    refine j_aloadn (k := 0) (D_People_add 12 rfl) rfl rfl ?_
    refine j_getR rfl fa_People_15 kd_1 lc_1 (by decide) rfl fx_1_1 (by decide) (D_People_add 13 rfl) ?_
    refine j_aloadn (k := 0) (D_People_add 14 rfl) rfl rfl ?_
    refine j_getI rfl fa_People_33 kd_1 lc_1 (by decide) rfl (D_People_add 15 rfl) ?_
    refine j_iloadn (k := 2) (D_People_add 16 rfl) rfl rfl ?_
    have g2 := gd_c h
    replace h := gd_s h
    refine j_iast (NI := 32) (D_People_add 17 rfl) kd_3 lc_3 (wr_gi _ _ _) rfl g2.1 g2.2 ?_
    refine j_gen (fun G2 e2 => ?_)
    replace h := wG_at h e2
    refine j_aloadn (k := 0) (D_People_add 18 rfl) rfl rfl ?_
    refine j_getR rfl fa_People_18 kd_1 lc_1 (by decide) rfl fx_1_2 (by decide) (D_People_add 19 rfl) ?_
    refine j_aloadn (k := 0) (D_People_add 20 rfl) rfl rfl ?_
    refine j_getI rfl fa_People_33 kd_1 lc_1 (by decide) rfl (D_People_add 21 rfl) ?_
    refine j_iloadn (k := 3) (D_People_add 22 rfl) rfl rfl ?_
    have g3 := gd_c h
    replace h := gd_s h
    refine j_iast (NI := 32) (D_People_add 23 rfl) kd_4 lc_4 (wr_gi _ _ _) rfl g3.1 g3.2 ?_
    refine j_gen (fun G3 e3 => ?_)
    replace h := wG_at h e3
    refine j_aloadn (k := 0) (D_People_add 24 rfl) rfl rfl ?_
    refine j_getR rfl fa_People_21 kd_1 lc_1 (by decide) rfl fx_1_3 (by decide) (D_People_add 25 rfl) ?_
    refine j_aloadn (k := 0) (D_People_add 26 rfl) rfl rfl ?_
    refine j_getI rfl fa_People_33 kd_1 lc_1 (by decide) rfl (D_People_add 27 rfl) ?_
    refine j_iload (k := 4) (D_People_add 28 rfl) rfl ?_
    have g4 := gd_c h
    replace h := gd_s h
    refine j_iast (NI := 32) (D_People_add 29 rfl) kd_5 lc_5 (wr_gi _ _ _) rfl g4.1 g4.2 ?_
    refine j_gen (fun G4 e4 => ?_)
    replace h := wG_at h e4
    refine j_aloadn (k := 0) (D_People_add 30 rfl) rfl rfl ?_
    refine j_getR rfl fa_People_24 kd_1 lc_1 (by decide) rfl fx_1_4 (by decide) (D_People_add 31 rfl) ?_
    refine j_aloadn (k := 0) (D_People_add 32 rfl) rfl rfl ?_
    refine j_getI rfl fa_People_33 kd_1 lc_1 (by decide) rfl (D_People_add 33 rfl) ?_
    refine j_iload (k := 5) (D_People_add 34 rfl) rfl ?_
    have g5 := gd_c h
    replace h := gd_s h
    refine j_iast (NI := 32) (D_People_add 35 rfl) kd_6 lc_6 (wr_gi _ _ _) rfl g5.1 g5.2 ?_
    refine j_gen (fun G5 e5 => ?_)
    replace h := wG_at h e5
    refine j_aloadn (k := 0) (D_People_add 36 rfl) rfl rfl ?_
    refine j_getR rfl fa_People_27 kd_1 lc_1 (by decide) rfl fx_1_5 (by decide) (D_People_add 37 rfl) ?_
    refine j_aloadn (k := 0) (D_People_add 38 rfl) rfl rfl ?_
    refine j_getI rfl fa_People_33 kd_1 lc_1 (by decide) rfl (D_People_add 39 rfl) ?_
    refine j_iconst (v := (-1)) (D_People_add 40 rfl) rfl ?_
    have g6 := gd_c h
    replace h := gd_s h
    refine j_iast (NI := 32) (D_People_add 41 rfl) kd_7 lc_7 (wr_gi _ _ _) rfl g6.1 g6.2 ?_
    refine j_gen (fun G6 e6 => ?_)
    replace h := wG_at h e6
    refine j_aloadn (k := 0) (D_People_add 42 rfl) rfl rfl ?_
    refine j_getR rfl fa_People_30 kd_1 lc_1 (by decide) rfl fx_1_6 (by decide) (D_People_add 43 rfl) ?_
    refine j_aloadn (k := 0) (D_People_add 44 rfl) rfl rfl ?_
    refine j_getI rfl fa_People_33 kd_1 lc_1 (by decide) rfl (D_People_add 45 rfl) ?_
    refine j_iconst (v := (-1)) (D_People_add 46 rfl) rfl ?_
    have g7 := gd_c h
    replace h := gd_s h
    refine j_iast (NI := 32) (D_People_add 47 rfl) kd_8 lc_8 (wr_gi _ _ _) rfl g7.1 g7.2 ?_
    refine j_gen (fun G7 e7 => ?_)
    replace h := wG_at h e7
    refine j_aloadn (k := 0) (D_People_add 48 rfl) rfl rfl ?_
    refine j_dup (D_People_add 49 rfl) rfl ?_
    refine j_getI rfl fa_People_33 kd_1 lc_1 (by decide) rfl (D_People_add 50 rfl) ?_
    refine j_iconst (v := 1) (D_People_add 51 rfl) rfl ?_
    refine j_iadd (D_People_add 52 rfl) ?_
    refine j_putI rfl fa_People_33 kd_1 lc_1 (by decide) rfl (D_People_add 53 rfl) ?_
    refine j_gen (fun G8 e8 => ?_)
    replace h := wG_at h e8
    refine j_aloadn (k := 0) (D_People_add 54 rfl) rfl rfl ?_
    refine j_getI rfl fa_People_33 kd_1 lc_1 (by decide) rfl (D_People_add 55 rfl) ?_
    refine j_iconst (v := 1) (D_People_add 56 rfl) rfl ?_
    refine j_isub (D_People_add 57 rfl) ?_
    exact j_iret (D_People_add 58 rfl) rfl (rfl) rfl rfl (leafI h (wr_n (rfl)))
  · replace h := ite_f h c1
    refine j_iconst (v := (-1)) (D_People_add 4 rfl) rfl ?_
    exact j_iret (D_People_add 5 rfl) rfl (wr_lit rfl) rfl rfl (leafI h (wr_n (wr_lit rfl)))
abbrev M_Hall_person : MI := (⟨"InquestHall", "person", "(IIIII)I"⟩, prog_1_method_3_code, 7, (some .int))
theorem cw_Hall_person : Cond.code M_Hall_person.1 M_Hall_person.2.1 M_Hall_person.2.2.1 M_Hall_person.2.2.2 ∈ TS := mTS (List.mem_of_getElem? (i := 645) (by decide +kernel)) (by decide +kernel)
theorem fa_Hall_12 : FA "InquestHall" 12 0 0 true (.object "InquestHall$People") := ⟨_, _, _, _, ok_Hall, by decide, mTS (List.mem_of_getElem? (i := 592) (by decide +kernel)) (by decide +kernel), rfl, rfl⟩
theorem fx_0_0 {G : GS} (w : WF true NC G) : G.2.2 0 0 = 1 := w.2 rfl (0, 0, 1) (by decide)
theorem lk_Hall_107 : Cond.methodLink "InquestHall" 107 M_People_isMan.1 ∈ TS := mTS (List.mem_of_getElem? (i := 646) (by decide +kernel)) (by decide +kernel)
theorem mok_People_isMan : MOK M_People_isMan 1 := ⟨mTS (List.mem_of_getElem? (i := 647) (by decide +kernel)) (by decide +kernel), mTS (List.mem_of_getElem? (i := 648) (by decide +kernel)) (by decide +kernel), mTS (List.mem_of_getElem? (i := 123) (by decide +kernel)) (by decide +kernel), cw_People_isMan, ⟨by decide, by decide, by decide +kernel⟩, by decide +kernel, by decide⟩
theorem lk_Hall_111 : Cond.methodLink "InquestHall" 111 M_People_isWoman.1 ∈ TS := mTS (List.mem_of_getElem? (i := 654) (by decide +kernel)) (by decide +kernel)
theorem mok_People_isWoman : MOK M_People_isWoman 1 := ⟨mTS (List.mem_of_getElem? (i := 655) (by decide +kernel)) (by decide +kernel), mTS (List.mem_of_getElem? (i := 656) (by decide +kernel)) (by decide +kernel), mTS (List.mem_of_getElem? (i := 123) (by decide +kernel)) (by decide +kernel), cw_People_isWoman, ⟨by decide, by decide, by decide +kernel⟩, by decide +kernel, by decide⟩
theorem lk_Hall_114 : Cond.methodLink "InquestHall" 114 M_Hall_isBirth.1 ∈ TS := mTS (List.mem_of_getElem? (i := 658) (by decide +kernel)) (by decide +kernel)
theorem mok_Hall_isBirth : MOK M_Hall_isBirth 2 := ⟨mTS (List.mem_of_getElem? (i := 660) (by decide +kernel)) (by decide +kernel), mTS (List.mem_of_getElem? (i := 0) (by decide +kernel)) (by decide +kernel), mTS (List.mem_of_getElem? (i := 122) (by decide +kernel)) (by decide +kernel), cw_Hall_isBirth, ⟨by decide, by decide, by decide +kernel⟩, by decide +kernel, by decide⟩
theorem lk_Hall_118 : Cond.methodLink "InquestHall" 118 M_People_add.1 ∈ TS := mTS (List.mem_of_getElem? (i := 662) (by decide +kernel)) (by decide +kernel)
theorem mok_People_add : MOK M_People_add 5 := ⟨mTS (List.mem_of_getElem? (i := 663) (by decide +kernel)) (by decide +kernel), mTS (List.mem_of_getElem? (i := 664) (by decide +kernel)) (by decide +kernel), mTS (List.mem_of_getElem? (i := 123) (by decide +kernel)) (by decide +kernel), cw_People_add, ⟨by decide, by decide, by decide +kernel⟩, by decide +kernel, by decide⟩
def tb_Hall_person : List (Nat × Instr × Nat) := [(0, .iload_n 2, 1), (1, .iconst (-1), 1), (2, .if_icmp .eq 14, 3), (5, .aload_n 0, 1), (6, .getfield 12, 3), (9, .iload_n 2, 1), (10, .invokevirtual 107, 3), (13, .ifCond .eq 23, 3), (16, .iload_n 3, 1), (17, .iconst (-1), 1), (18, .if_icmp .eq 14, 3), (21, .aload_n 0, 1), (22, .getfield 12, 3), (25, .iload_n 3, 1), (26, .invokevirtual 111, 3), (29, .ifCond .eq 7, 3), (32, .iconst 1, 1), (33, .goto 4, 3), (36, .iconst 0, 1), (37, .istore 6, 2), (39, .iload_n 1, 1), (40, .ifCond .lt 24, 3), (43, .iload_n 1, 1), (44, .iconst 1, 1), (45, .if_icmp .gt 19, 3), (48, .iload 6, 2), (50, .ifCond .eq 14, 3), (53, .aload_n 0, 1), (54, .iload 4, 2), (56, .iload 5, 2), (58, .invokevirtual 114, 3), (61, .ifCond .ne 5, 3), (64, .iconst (-1), 1), (65, .ireturn, 1), (66, .aload_n 0, 1), (67, .getfield 12, 3), (70, .iload_n 1, 1), (71, .iload_n 2, 1), (72, .iload_n 3, 1), (73, .iload 4, 2), (75, .iload 5, 2), (77, .invokevirtual 118, 3), (80, .ireturn, 1)]
theorem D_Hall_person (i : Nat) {pc len : Nat} {ins : Instr} (hi : tb_Hall_person[i]? = some (pc, ins, len)) : decode M_Hall_person.2.1 pc = .ok (ins, len) := dec_of (by decide +kernel) i hi
def f_Hall_person_L37 (G : GS) (x1 : Int) (x2 : Int) (x3 : Int) (x4 : Int) (x5 : Int) (s0 : Int) : Option (Int × GS) :=
  if x1 < 0 then
    some ((-1), G)
  else
    if 1 < x1 then
      some ((-1), G)
    else
      if s0 = 0 then
        some ((-1), G)
      else
        (f_Hall_isBirth G x4 x5).bind fun q1 =>
        if q1 = 0 then
          some ((-1), G)
        else
          (f_People_add G x1 x2 x3 x4 x5).bind fun q2 =>
          some (q2.1, q2.2)
theorem s_Hall_person_L37 {X : XT} {r : Int × GS} : ∀ {G : GS} {x1 : Int} {x2 : Int} {x3 : Int} {x4 : Int} {x5 : Int} {s0 : Int}, wr x1 = x1 → wr x2 = x2 → wr x3 = x3 → wr x4 = x4 → wr x5 = x5 → wr s0 = s0 → f_Hall_person_L37 G x1 x2 x3 x4 x5 s0 = some r → J X true 8 0 0 M_Hall_person (Ri r.1 r.2) NC 0 0 37 [(0, rf X 0), (1, vi x1), (2, vi x2), (3, vi x3), (4, vi x4), (5, vi x5)] [vi s0] G := by
  intro G x1 x2 x3 x4 x5 s0 hx1 hx2 hx3 hx4 hx5 hs0 h
  unfold f_Hall_person_L37 at h
  refine j_istore (L' := [(6, vi s0), (0, rf X 0), (1, vi x1), (2, vi x2), (3, vi x3), (4, vi x4), (5, vi x5)]) (D_Hall_person 19 rfl) (hs0) (by decide) rfl ?_
  refine j_iloadn (k := 2) (D_Hall_person 20 rfl) rfl rfl ?_
  refine j_if_lt (tgt := 64) (D_Hall_person 21 rfl) rfl (hx1) (fun c1 => ?_) (fun c1 => ?_)
  · replace h := ite_t h c1
    refine j_iconst (v := (-1)) (D_Hall_person 32 rfl) rfl ?_
    exact j_iret (D_Hall_person 33 rfl) rfl (wr_lit rfl) rfl rfl (leafI h (wr_n (wr_lit rfl)))
  · replace h := ite_f h c1
    refine j_iloadn (k := 2) (D_Hall_person 22 rfl) rfl rfl ?_
    refine j_iconst (v := 1) (D_Hall_person 23 rfl) rfl ?_
    refine j_ic_gt (tgt := 64) (D_Hall_person 24 rfl) rfl (hx1) (wr_lit rfl) (fun c2 => ?_) (fun c2 => ?_)
    · replace h := ite_t h c2
      refine j_iconst (v := (-1)) (D_Hall_person 32 rfl) rfl ?_
      exact j_iret (D_Hall_person 33 rfl) rfl (wr_lit rfl) rfl rfl (leafI h (wr_n (wr_lit rfl)))
    · replace h := ite_f h c2
      refine j_iload (k := 0) (D_Hall_person 25 rfl) rfl ?_
      refine j_if_eq (tgt := 64) (D_Hall_person 26 rfl) rfl (hs0) (fun c3 => ?_) (fun c3 => ?_)
      · replace h := ite_t h c3
        refine j_iconst (v := (-1)) (D_Hall_person 32 rfl) rfl ?_
        exact j_iret (D_Hall_person 33 rfl) rfl (wr_lit rfl) rfl rfl (leafI h (wr_n (wr_lit rfl)))
      · replace h := ite_f h c3
        refine j_aloadn (k := 1) (D_Hall_person 27 rfl) rfl rfl ?_
        refine j_iload (k := 5) (D_Hall_person 28 rfl) rfl ?_
        refine j_iload (k := 6) (D_Hall_person 29 rfl) rfl ?_
        obtain ⟨q1, e1, h⟩ := Option.bind_eq_some_iff.mp h
        refine j_cVz (c_Hall_isBirth (hx4) (hx5) e1) rfl lk_Hall_114 mok_Hall_isBirth kd_0 lc_0 rfl (by decide) rfl rfl (Nat.le_of_ble_eq_true rfl) (D_Hall_person 30 rfl) (fun w1 bw1 => ?_)
        refine j_if_ne (tgt := 66) (D_Hall_person 31 rfl) rfl (w1) (fun c4 => ?_) (fun c4 => ?_)
        · replace h := ite_f h c4
          refine j_aloadn (k := 1) (D_Hall_person 34 rfl) rfl rfl ?_
          refine j_getR rfl fa_Hall_12 kd_0 lc_0 (by decide) rfl fx_0_0 (by decide) (D_Hall_person 35 rfl) ?_
          refine j_iloadn (k := 2) (D_Hall_person 36 rfl) rfl rfl ?_
          refine j_iloadn (k := 3) (D_Hall_person 37 rfl) rfl rfl ?_
          refine j_iloadn (k := 4) (D_Hall_person 38 rfl) rfl rfl ?_
          refine j_iload (k := 5) (D_Hall_person 39 rfl) rfl ?_
          refine j_iload (k := 6) (D_Hall_person 40 rfl) rfl ?_
          obtain ⟨q2, e2, h⟩ := Option.bind_eq_some_iff.mp h
          refine j_cVi (c_People_add (hx1) (hx2) (hx3) (hx4) (hx5) e2) rfl lk_Hall_118 mok_People_add kd_1 lc_1 rfl (by decide) rfl rfl (Nat.le_of_ble_eq_true rfl) (D_Hall_person 41 rfl) (fun w2 => ?_)
          exact j_iret (D_Hall_person 42 rfl) rfl (w2) rfl rfl (leafI h (wr_n (w2)))
        · replace h := ite_t h c4
          refine j_iconst (v := (-1)) (D_Hall_person 32 rfl) rfl ?_
          exact j_iret (D_Hall_person 33 rfl) rfl (wr_lit rfl) rfl rfl (leafI h (wr_n (wr_lit rfl)))
def f_Hall_person_L32 (G : GS) (x1 : Int) (x2 : Int) (x3 : Int) (x4 : Int) (x5 : Int) : Option (Int × GS) :=
  f_Hall_person_L37 G x1 x2 x3 x4 x5 1
theorem s_Hall_person_L32 {X : XT} {r : Int × GS} : ∀ {G : GS} {x1 : Int} {x2 : Int} {x3 : Int} {x4 : Int} {x5 : Int}, wr x1 = x1 → wr x2 = x2 → wr x3 = x3 → wr x4 = x4 → wr x5 = x5 → f_Hall_person_L32 G x1 x2 x3 x4 x5 = some r → J X true 8 0 0 M_Hall_person (Ri r.1 r.2) NC 0 0 32 [(0, rf X 0), (1, vi x1), (2, vi x2), (3, vi x3), (4, vi x4), (5, vi x5)] [] G := by
  intro G x1 x2 x3 x4 x5 hx1 hx2 hx3 hx4 hx5 h
  unfold f_Hall_person_L32 at h
  refine j_iconst (v := 1) (D_Hall_person 16 rfl) rfl ?_
  refine j_goto (tgt := 37) (D_Hall_person 17 rfl) rfl ?_
  refine j_loc [0, 1, 2, 3, 4, 5] rfl ?_
  exact s_Hall_person_L37 (hx1) (hx2) (hx3) (hx4) (hx5) (wr_lit rfl) h
def f_Hall_person_L36 (G : GS) (x1 : Int) (x2 : Int) (x3 : Int) (x4 : Int) (x5 : Int) : Option (Int × GS) :=
  f_Hall_person_L37 G x1 x2 x3 x4 x5 0
theorem s_Hall_person_L36 {X : XT} {r : Int × GS} : ∀ {G : GS} {x1 : Int} {x2 : Int} {x3 : Int} {x4 : Int} {x5 : Int}, wr x1 = x1 → wr x2 = x2 → wr x3 = x3 → wr x4 = x4 → wr x5 = x5 → f_Hall_person_L36 G x1 x2 x3 x4 x5 = some r → J X true 8 0 0 M_Hall_person (Ri r.1 r.2) NC 0 0 36 [(0, rf X 0), (1, vi x1), (2, vi x2), (3, vi x3), (4, vi x4), (5, vi x5)] [] G := by
  intro G x1 x2 x3 x4 x5 hx1 hx2 hx3 hx4 hx5 h
  unfold f_Hall_person_L36 at h
  refine j_iconst (v := 0) (D_Hall_person 18 rfl) rfl ?_
  refine j_loc [0, 1, 2, 3, 4, 5] rfl ?_
  exact s_Hall_person_L37 (hx1) (hx2) (hx3) (hx4) (hx5) (wr_lit rfl) h
def f_Hall_person_L16 (G : GS) (x1 : Int) (x2 : Int) (x3 : Int) (x4 : Int) (x5 : Int) : Option (Int × GS) :=
  if x3 = (-1) then
    f_Hall_person_L32 G x1 x2 x3 x4 x5
  else
    (f_People_isWoman G x3).bind fun q1 =>
    if q1 = 0 then
      f_Hall_person_L36 G x1 x2 x3 x4 x5
    else
      f_Hall_person_L32 G x1 x2 x3 x4 x5
theorem s_Hall_person_L16 {X : XT} {r : Int × GS} : ∀ {G : GS} {x1 : Int} {x2 : Int} {x3 : Int} {x4 : Int} {x5 : Int}, wr x1 = x1 → wr x2 = x2 → wr x3 = x3 → wr x4 = x4 → wr x5 = x5 → f_Hall_person_L16 G x1 x2 x3 x4 x5 = some r → J X true 8 0 0 M_Hall_person (Ri r.1 r.2) NC 0 0 16 [(0, rf X 0), (1, vi x1), (2, vi x2), (3, vi x3), (4, vi x4), (5, vi x5)] [] G := by
  intro G x1 x2 x3 x4 x5 hx1 hx2 hx3 hx4 hx5 h
  unfold f_Hall_person_L16 at h
  refine j_iloadn (k := 3) (D_Hall_person 8 rfl) rfl rfl ?_
  refine j_iconst (v := (-1)) (D_Hall_person 9 rfl) rfl ?_
  refine j_ic_eq (tgt := 32) (D_Hall_person 10 rfl) rfl (hx3) (wr_lit rfl) (fun c1 => ?_) (fun c1 => ?_)
  · replace h := ite_t h c1
    refine j_loc [0, 1, 2, 3, 4, 5] rfl ?_
    exact s_Hall_person_L32 (hx1) (hx2) (hx3) (hx4) (hx5) h
  · replace h := ite_f h c1
    refine j_aloadn (k := 0) (D_Hall_person 11 rfl) rfl rfl ?_
    refine j_getR rfl fa_Hall_12 kd_0 lc_0 (by decide) rfl fx_0_0 (by decide) (D_Hall_person 12 rfl) ?_
    refine j_iloadn (k := 3) (D_Hall_person 13 rfl) rfl rfl ?_
    obtain ⟨q1, e1, h⟩ := Option.bind_eq_some_iff.mp h
    refine j_cVz (c_People_isWoman (hx3) e1) rfl lk_Hall_111 mok_People_isWoman kd_1 lc_1 rfl (by decide) rfl rfl (Nat.le_of_ble_eq_true rfl) (D_Hall_person 14 rfl) (fun w1 bw1 => ?_)
    refine j_if_eq (tgt := 36) (D_Hall_person 15 rfl) rfl (w1) (fun c2 => ?_) (fun c2 => ?_)
    · replace h := ite_t h c2
      refine j_loc [0, 1, 2, 3, 4, 5] rfl ?_
      exact s_Hall_person_L36 (hx1) (hx2) (hx3) (hx4) (hx5) h
    · replace h := ite_f h c2
      refine j_loc [0, 1, 2, 3, 4, 5] rfl ?_
      exact s_Hall_person_L32 (hx1) (hx2) (hx3) (hx4) (hx5) h
def f_Hall_person (G : GS) (a1 : Int) (a2 : Int) (a3 : Int) (a4 : Int) (a5 : Int) : Option (Int × GS) :=
  if a2 = (-1) then
    f_Hall_person_L16 G a1 a2 a3 a4 a5
  else
    (f_People_isMan G a2).bind fun q1 =>
    if q1 = 0 then
      f_Hall_person_L36 G a1 a2 a3 a4 a5
    else
      f_Hall_person_L16 G a1 a2 a3 a4 a5
theorem c_Hall_person {X : XT} {G : GS} {a1 : Int} {a2 : Int} {a3 : Int} {a4 : Int} {a5 : Int} {r : Int × GS} (ha1 : wr a1 = a1) (ha2 : wr a2 = a2) (ha3 : wr a3 = a3) (ha4 : wr a4 = a4) (ha5 : wr a5 = a5) (h : f_Hall_person G a1 a2 a3 a4 a5 = some r) : Call X true 8 0 0 M_Hall_person [rf X 0, vi a1, vi a2, vi a3, vi a4, vi a5] NC G (Ri r.1 r.2) := by
  refine Call_of_J cw_Hall_person (by decide +kernel) (Nat.le_of_ble_eq_true rfl) ?_
  unfold f_Hall_person at h
  show J X true 8 0 0 M_Hall_person (Ri r.1 r.2) NC 0 0 0 [(0, rf X 0), (1, vi a1), (2, vi a2), (3, vi a3), (4, vi a4), (5, vi a5)] [] G
  refine j_iloadn (k := 2) (D_Hall_person 0 rfl) rfl rfl ?_
  refine j_iconst (v := (-1)) (D_Hall_person 1 rfl) rfl ?_
  refine j_ic_eq (tgt := 16) (D_Hall_person 2 rfl) rfl (ha2) (wr_lit rfl) (fun c1 => ?_) (fun c1 => ?_)
  · replace h := ite_t h c1
    refine j_loc [0, 1, 2, 3, 4, 5] rfl ?_
    exact s_Hall_person_L16 (ha1) (ha2) (ha3) (ha4) (ha5) h
  · replace h := ite_f h c1
    refine j_aloadn (k := 0) (D_Hall_person 3 rfl) rfl rfl ?_
    refine j_getR rfl fa_Hall_12 kd_0 lc_0 (by decide) rfl fx_0_0 (by decide) (D_Hall_person 4 rfl) ?_
    refine j_iloadn (k := 2) (D_Hall_person 5 rfl) rfl rfl ?_
    obtain ⟨q1, e1, h⟩ := Option.bind_eq_some_iff.mp h
    refine j_cVz (c_People_isMan (ha2) e1) rfl lk_Hall_107 mok_People_isMan kd_1 lc_1 rfl (by decide) rfl rfl (Nat.le_of_ble_eq_true rfl) (D_Hall_person 6 rfl) (fun w1 bw1 => ?_)
    refine j_if_eq (tgt := 36) (D_Hall_person 7 rfl) rfl (w1) (fun c2 => ?_) (fun c2 => ?_)
    · replace h := ite_t h c2
      refine j_loc [0, 1, 2, 3, 4, 5] rfl ?_
      exact s_Hall_person_L36 (ha1) (ha2) (ha3) (ha4) (ha5) h
    · replace h := ite_f h c2
      refine j_loc [0, 1, 2, 3, 4, 5] rfl ?_
      exact s_Hall_person_L16 (ha1) (ha2) (ha3) (ha4) (ha5) h
abbrev M_Model_isPerson : MI := (⟨"InquestHallModel", "isPerson", "(I)Z"⟩, prog_14_method_5_code, 2, (some .boolean))
theorem cw_Model_isPerson : Cond.code M_Model_isPerson.1 M_Model_isPerson.2.1 M_Model_isPerson.2.2.1 M_Model_isPerson.2.2.2 ∈ TS := mTS (List.mem_of_getElem? (i := 1582) (by decide +kernel)) (by decide +kernel)
theorem fa_Model_195 : FA "InquestHallModel" 195 12 1 false .int := ⟨_, _, _, _, ok_Model, by decide, mTS (List.mem_of_getElem? (i := 1302) (by decide +kernel)) (by decide +kernel), rfl, rfl⟩
def tb_Model_isPerson : List (Nat × Instr × Nat) := [(0, .iload_n 1, 1), (1, .iconst 0, 1), (2, .aload_n 0, 1), (3, .getfield 195, 3), (6, .iconst 1, 1), (7, .isub, 1), (8, .invokestatic 188, 3), (11, .ireturn, 1)]
theorem D_Model_isPerson (i : Nat) {pc len : Nat} {ins : Instr} (hi : tb_Model_isPerson[i]? = some (pc, ins, len)) : decode M_Model_isPerson.2.1 pc = .ok (ins, len) := dec_of (by decide +kernel) i hi
def f_Model_isPerson (G : GS) (a1 : Int) : Option (Int) :=
  (f_Model_isIn G a1 0 (wr ((gi G 81 1) - 1))).bind fun q1 =>
  some q1
theorem c_Model_isPerson {X : XT} {G : GS} {a1 : Int} {r : Int} (ha1 : wr a1 = a1) (h : f_Model_isPerson G a1 = some r) : Call X true 7 0 0 M_Model_isPerson [rf X 81, vi a1] NC G (Rz r G) := by
  refine Call_of_J cw_Model_isPerson (by decide +kernel) (Nat.le_of_ble_eq_true rfl) ?_
  unfold f_Model_isPerson at h
  show J X true 7 0 0 M_Model_isPerson (Rz r G) NC 0 0 0 [(0, rf X 81), (1, vi a1)] [] G
  refine j_iloadn (k := 1) (D_Model_isPerson 0 rfl) rfl rfl ?_
  refine j_iconst (v := 0) (D_Model_isPerson 1 rfl) rfl ?_
  refine j_aloadn (k := 0) (D_Model_isPerson 2 rfl) rfl rfl ?_
  refine j_getI rfl fa_Model_195 kd_81 lc_81 (by decide) rfl (D_Model_isPerson 3 rfl) ?_
  refine j_iconst (v := 1) (D_Model_isPerson 4 rfl) rfl ?_
  refine j_isub (D_Model_isPerson 5 rfl) ?_
  refine j_top0 (rfl) ?_
  obtain ⟨q1, e1, h⟩ := Option.bind_eq_some_iff.mp h
  refine j_cSz (c_Model_isIn (ha1) (wr_lit rfl) (wr_wr _) e1) rfl lk_Model_188 sok_Model_isIn (by decide) rfl rfl (Nat.le_of_ble_eq_true rfl) (D_Model_isPerson 6 rfl) (fun w1 bw1 => ?_)
  exact j_zret (D_Model_isPerson 7 rfl) rfl (w1) (nz_01 bw1) rfl rfl (leafZo h (wr_n (w1)) bw1)
abbrev M_Model_isOf : MI := (⟨"InquestHallModel", "isOf", "(II)Z"⟩, prog_14_method_6_code, 3, (some .boolean))
theorem cw_Model_isOf : Cond.code M_Model_isOf.1 M_Model_isOf.2.1 M_Model_isOf.2.2.1 M_Model_isOf.2.2.2 ∈ TS := mTS (List.mem_of_getElem? (i := 1578) (by decide +kernel)) (by decide +kernel)
theorem lk_Model_198 : Cond.methodLink "InquestHallModel" 198 M_Model_isPerson.1 ∈ TS := mTS (List.mem_of_getElem? (i := 1579) (by decide +kernel)) (by decide +kernel)
theorem mok_Model_isPerson : MOK M_Model_isPerson 1 := ⟨mTS (List.mem_of_getElem? (i := 1581) (by decide +kernel)) (by decide +kernel), mTS (List.mem_of_getElem? (i := 61) (by decide +kernel)) (by decide +kernel), mTS (List.mem_of_getElem? (i := 139) (by decide +kernel)) (by decide +kernel), cw_Model_isPerson, ⟨by decide, by decide, by decide +kernel⟩, by decide +kernel, by decide⟩
theorem fa_Model_7 : FA "InquestHallModel" 7 12 2 true (.array .int) := ⟨_, _, _, _, ok_Model, by decide, mTS (List.mem_of_getElem? (i := 1303) (by decide +kernel)) (by decide +kernel), rfl, rfl⟩
theorem fx_81_2 {G : GS} (w : WF true NC G) : G.2.2 81 2 = 82 := w.2 rfl (81, 2, 82) (by decide)
theorem kd_82 : kd 82 = (0, 32) := rfl
theorem lc_82 : 82 < NC := by decide
def tb_Model_isOf : List (Nat × Instr × Nat) := [(0, .iload_n 1, 1), (1, .iconst (-1), 1), (2, .if_icmp .eq 21, 3), (5, .aload_n 0, 1), (6, .iload_n 1, 1), (7, .invokevirtual 198, 3), (10, .ifCond .eq 17, 3), (13, .aload_n 0, 1), (14, .getfield 7, 3), (17, .iload_n 1, 1), (18, .iaload, 1), (19, .iload_n 2, 1), (20, .if_icmp .ne 7, 3), (23, .iconst 1, 1), (24, .goto 4, 3), (27, .iconst 0, 1), (28, .ireturn, 1)]
theorem D_Model_isOf (i : Nat) {pc len : Nat} {ins : Instr} (hi : tb_Model_isOf[i]? = some (pc, ins, len)) : decode M_Model_isOf.2.1 pc = .ok (ins, len) := dec_of (by decide +kernel) i hi
def f_Model_isOf (G : GS) (a1 : Int) (a2 : Int) : Option (Int) :=
  if a1 = (-1) then
    some 1
  else
    (f_Model_isPerson G a1).bind fun q1 =>
    if q1 = 0 then
      some 0
    else
      gd (0 ≤ a1 ∧ a1 < 32) <|
      if gi G 82 a1.toNat = a2 then
        some 1
      else
        some 0
theorem c_Model_isOf {X : XT} {G : GS} {a1 : Int} {a2 : Int} {r : Int} (ha1 : wr a1 = a1) (ha2 : wr a2 = a2) (h : f_Model_isOf G a1 a2 = some r) : Call X true 8 0 0 M_Model_isOf [rf X 81, vi a1, vi a2] NC G (Rz r G) := by
  refine Call_of_J cw_Model_isOf (by decide +kernel) (Nat.le_of_ble_eq_true rfl) ?_
  unfold f_Model_isOf at h
  show J X true 8 0 0 M_Model_isOf (Rz r G) NC 0 0 0 [(0, rf X 81), (1, vi a1), (2, vi a2)] [] G
  refine j_iloadn (k := 1) (D_Model_isOf 0 rfl) rfl rfl ?_
  refine j_iconst (v := (-1)) (D_Model_isOf 1 rfl) rfl ?_
  refine j_ic_eq (tgt := 23) (D_Model_isOf 2 rfl) rfl (ha1) (wr_lit rfl) (fun c1 => ?_) (fun c1 => ?_)
  · replace h := ite_t h c1
    refine j_iconst (v := 1) (D_Model_isOf 13 rfl) rfl ?_
    refine j_goto (tgt := 28) (D_Model_isOf 14 rfl) rfl ?_
    exact j_zret (D_Model_isOf 16 rfl) rfl (wr_lit rfl) (nz_01 (by decide)) rfl rfl (leafZo h (wr_n (wr_lit rfl)) (by decide))
  · replace h := ite_f h c1
    refine j_aloadn (k := 0) (D_Model_isOf 3 rfl) rfl rfl ?_
    refine j_iloadn (k := 1) (D_Model_isOf 4 rfl) rfl rfl ?_
    obtain ⟨q1, e1, h⟩ := Option.bind_eq_some_iff.mp h
    refine j_cVz (c_Model_isPerson (ha1) e1) rfl lk_Model_198 mok_Model_isPerson kd_81 lc_81 rfl (by decide) rfl rfl (Nat.le_of_ble_eq_true rfl) (D_Model_isOf 5 rfl) (fun w1 bw1 => ?_)
    refine j_if_eq (tgt := 27) (D_Model_isOf 6 rfl) rfl (w1) (fun c2 => ?_) (fun c2 => ?_)
    · replace h := ite_t h c2
      refine j_iconst (v := 0) (D_Model_isOf 15 rfl) rfl ?_
      exact j_zret (D_Model_isOf 16 rfl) rfl (wr_lit rfl) (nz_01 (by decide)) rfl rfl (leafZo h (wr_n (wr_lit rfl)) (by decide))
    · replace h := ite_f h c2
      refine j_aloadn (k := 0) (D_Model_isOf 7 rfl) rfl rfl ?_
      refine j_getR rfl fa_Model_7 kd_81 lc_81 (by decide) rfl fx_81_2 (by decide) (D_Model_isOf 8 rfl) ?_
      refine j_iloadn (k := 1) (D_Model_isOf 9 rfl) rfl rfl ?_
      have g1 := gd_c h
      replace h := gd_s h
      refine j_iald (NI := 32) (D_Model_isOf 10 rfl) kd_82 lc_82 (ha1) rfl g1.1 g1.2 ?_
      refine j_iloadn (k := 2) (D_Model_isOf 11 rfl) rfl rfl ?_
      refine j_ic_ne (tgt := 27) (D_Model_isOf 12 rfl) rfl (wr_gi _ _ _) (ha2) (fun c3 => ?_) (fun c3 => ?_)
      · replace h := ite_f h c3
        refine j_iconst (v := 0) (D_Model_isOf 15 rfl) rfl ?_
        exact j_zret (D_Model_isOf 16 rfl) rfl (wr_lit rfl) (nz_01 (by decide)) rfl rfl (leafZo h (wr_n (wr_lit rfl)) (by decide))
      · replace h := ite_t h c3
        refine j_iconst (v := 1) (D_Model_isOf 13 rfl) rfl ?_
        refine j_goto (tgt := 28) (D_Model_isOf 14 rfl) rfl ?_
        exact j_zret (D_Model_isOf 16 rfl) rfl (wr_lit rfl) (nz_01 (by decide)) rfl rfl (leafZo h (wr_n (wr_lit rfl)) (by decide))
abbrev M_Model_isDay : MI := (⟨"InquestHallModel", "isDay", "(I)Z"⟩, prog_14_method_3_code, 1, (some .boolean))
theorem cw_Model_isDay : Cond.code M_Model_isDay.1 M_Model_isDay.2.1 M_Model_isDay.2.2.1 M_Model_isDay.2.2.2 ∈ TS := mTS (List.mem_of_getElem? (i := 1589) (by decide +kernel)) (by decide +kernel)
def tb_Model_isDay : List (Nat × Instr × Nat) := [(0, .iload_n 0, 1), (1, .iconst 0, 1), (2, .sipush 29999, 3), (5, .invokestatic 188, 3), (8, .ireturn, 1)]
theorem D_Model_isDay (i : Nat) {pc len : Nat} {ins : Instr} (hi : tb_Model_isDay[i]? = some (pc, ins, len)) : decode M_Model_isDay.2.1 pc = .ok (ins, len) := dec_of (by decide +kernel) i hi
def f_Model_isDay (G : GS) (a0 : Int) : Option (Int) :=
  (f_Model_isIn G a0 0 29999).bind fun q1 =>
  some q1
theorem c_Model_isDay {X : XT} {G : GS} {a0 : Int} {r : Int} (ha0 : wr a0 = a0) (h : f_Model_isDay G a0 = some r) : Call X true 7 0 0 M_Model_isDay [vi a0] NC G (Rz r G) := by
  refine Call_of_J cw_Model_isDay (by decide +kernel) (Nat.le_of_ble_eq_true rfl) ?_
  unfold f_Model_isDay at h
  show J X true 7 0 0 M_Model_isDay (Rz r G) NC 0 0 0 [(0, vi a0)] [] G
  refine j_iloadn (k := 0) (D_Model_isDay 0 rfl) rfl rfl ?_
  refine j_iconst (v := 0) (D_Model_isDay 1 rfl) rfl ?_
  refine j_sipush (v := 29999) (D_Model_isDay 2 rfl) rfl ?_
  obtain ⟨q1, e1, h⟩ := Option.bind_eq_some_iff.mp h
  refine j_cSz (c_Model_isIn (ha0) (wr_lit rfl) (wr_lit rfl) e1) rfl lk_Model_188 sok_Model_isIn (by decide) rfl rfl (Nat.le_of_ble_eq_true rfl) (D_Model_isDay 3 rfl) (fun w1 bw1 => ?_)
  exact j_zret (D_Model_isDay 4 rfl) rfl (w1) (nz_01 bw1) rfl rfl (leafZo h (wr_n (w1)) bw1)
abbrev M_Model_isSpan : MI := (⟨"InquestHallModel", "isSpan", "(II)Z"⟩, prog_14_method_7_code, 3, (some .boolean))
theorem cw_Model_isSpan : Cond.code M_Model_isSpan.1 M_Model_isSpan.2.1 M_Model_isSpan.2.2.1 M_Model_isSpan.2.2.2 ∈ TS := mTS (List.mem_of_getElem? (i := 1586) (by decide +kernel)) (by decide +kernel)
theorem lk_Model_202 : Cond.methodLink "InquestHallModel" 202 M_Model_isDay.1 ∈ TS := mTS (List.mem_of_getElem? (i := 1587) (by decide +kernel)) (by decide +kernel)
theorem sok_Model_isDay : SOK M_Model_isDay 1 := ⟨mTS (List.mem_of_getElem? (i := 1588) (by decide +kernel)) (by decide +kernel), mTS (List.mem_of_getElem? (i := 139) (by decide +kernel)) (by decide +kernel), cw_Model_isDay, ⟨by decide, by decide, by decide +kernel⟩, by decide +kernel, by decide⟩
def tb_Model_isSpan : List (Nat × Instr × Nat) := [(0, .iload_n 1, 1), (1, .invokestatic 202, 3), (4, .ifCond .eq 20, 3), (7, .iload_n 1, 1), (8, .iload_n 2, 1), (9, .if_icmp .gt 15, 3), (12, .iload_n 2, 1), (13, .aload_n 0, 1), (14, .getfield 192, 3), (17, .if_icmp .gt 7, 3), (20, .iconst 1, 1), (21, .goto 4, 3), (24, .iconst 0, 1), (25, .ireturn, 1)]
theorem D_Model_isSpan (i : Nat) {pc len : Nat} {ins : Instr} (hi : tb_Model_isSpan[i]? = some (pc, ins, len)) : decode M_Model_isSpan.2.1 pc = .ok (ins, len) := dec_of (by decide +kernel) i hi
def f_Model_isSpan (G : GS) (a1 : Int) (a2 : Int) : Option (Int) :=
  (f_Model_isDay G a1).bind fun q1 =>
  if q1 = 0 then
    some 0
  else
    if a2 < a1 then
      some 0
    else
      if gi G 81 0 < a2 then
        some 0
      else
        some 1
theorem c_Model_isSpan {X : XT} {G : GS} {a1 : Int} {a2 : Int} {r : Int} (ha1 : wr a1 = a1) (ha2 : wr a2 = a2) (h : f_Model_isSpan G a1 a2 = some r) : Call X true 8 0 0 M_Model_isSpan [rf X 81, vi a1, vi a2] NC G (Rz r G) := by
  refine Call_of_J cw_Model_isSpan (by decide +kernel) (Nat.le_of_ble_eq_true rfl) ?_
  unfold f_Model_isSpan at h
  show J X true 8 0 0 M_Model_isSpan (Rz r G) NC 0 0 0 [(0, rf X 81), (1, vi a1), (2, vi a2)] [] G
  refine j_iloadn (k := 1) (D_Model_isSpan 0 rfl) rfl rfl ?_
  obtain ⟨q1, e1, h⟩ := Option.bind_eq_some_iff.mp h
  refine j_cSz (c_Model_isDay (ha1) e1) rfl lk_Model_202 sok_Model_isDay (by decide) rfl rfl (Nat.le_of_ble_eq_true rfl) (D_Model_isSpan 1 rfl) (fun w1 bw1 => ?_)
  refine j_if_eq (tgt := 24) (D_Model_isSpan 2 rfl) rfl (w1) (fun c1 => ?_) (fun c1 => ?_)
  · replace h := ite_t h c1
    refine j_iconst (v := 0) (D_Model_isSpan 12 rfl) rfl ?_
    exact j_zret (D_Model_isSpan 13 rfl) rfl (wr_lit rfl) (nz_01 (by decide)) rfl rfl (leafZo h (wr_n (wr_lit rfl)) (by decide))
  · replace h := ite_f h c1
    refine j_iloadn (k := 1) (D_Model_isSpan 3 rfl) rfl rfl ?_
    refine j_iloadn (k := 2) (D_Model_isSpan 4 rfl) rfl rfl ?_
    refine j_ic_gt (tgt := 24) (D_Model_isSpan 5 rfl) rfl (ha1) (ha2) (fun c2 => ?_) (fun c2 => ?_)
    · replace h := ite_t h c2
      refine j_iconst (v := 0) (D_Model_isSpan 12 rfl) rfl ?_
      exact j_zret (D_Model_isSpan 13 rfl) rfl (wr_lit rfl) (nz_01 (by decide)) rfl rfl (leafZo h (wr_n (wr_lit rfl)) (by decide))
    · replace h := ite_f h c2
      refine j_iloadn (k := 2) (D_Model_isSpan 6 rfl) rfl rfl ?_
      refine j_aloadn (k := 0) (D_Model_isSpan 7 rfl) rfl rfl ?_
      refine j_getI rfl fa_Model_192 kd_81 lc_81 (by decide) rfl (D_Model_isSpan 8 rfl) ?_
      refine j_ic_gt (tgt := 24) (D_Model_isSpan 9 rfl) rfl (ha2) (wr_gi _ _ _) (fun c3 => ?_) (fun c3 => ?_)
      · replace h := ite_t h c3
        refine j_iconst (v := 0) (D_Model_isSpan 12 rfl) rfl ?_
        exact j_zret (D_Model_isSpan 13 rfl) rfl (wr_lit rfl) (nz_01 (by decide)) rfl rfl (leafZo h (wr_n (wr_lit rfl)) (by decide))
      · replace h := ite_f h c3
        refine j_iconst (v := 1) (D_Model_isSpan 10 rfl) rfl ?_
        refine j_goto (tgt := 25) (D_Model_isSpan 11 rfl) rfl ?_
        exact j_zret (D_Model_isSpan 13 rfl) rfl (wr_lit rfl) (nz_01 (by decide)) rfl rfl (leafZo h (wr_n (wr_lit rfl)) (by decide))
abbrev M_Model_person : MI := (⟨"InquestHallModel", "person", "(IIIII)I"⟩, prog_14_method_8_code, 6, (some .int))
theorem cw_Model_person : Cond.code M_Model_person.1 M_Model_person.2.1 M_Model_person.2.2.1 M_Model_person.2.2.2 ∈ TS := mTS (List.mem_of_getElem? (i := 1574) (by decide +kernel)) (by decide +kernel)
theorem lk_Model_205 : Cond.methodLink "InquestHallModel" 205 M_Model_isOf.1 ∈ TS := mTS (List.mem_of_getElem? (i := 1575) (by decide +kernel)) (by decide +kernel)
theorem mok_Model_isOf : MOK M_Model_isOf 2 := ⟨mTS (List.mem_of_getElem? (i := 1577) (by decide +kernel)) (by decide +kernel), mTS (List.mem_of_getElem? (i := 60) (by decide +kernel)) (by decide +kernel), mTS (List.mem_of_getElem? (i := 139) (by decide +kernel)) (by decide +kernel), cw_Model_isOf, ⟨by decide, by decide, by decide +kernel⟩, by decide +kernel, by decide⟩
theorem lk_Model_209 : Cond.methodLink "InquestHallModel" 209 M_Model_isSpan.1 ∈ TS := mTS (List.mem_of_getElem? (i := 1583) (by decide +kernel)) (by decide +kernel)
theorem mok_Model_isSpan : MOK M_Model_isSpan 2 := ⟨mTS (List.mem_of_getElem? (i := 1585) (by decide +kernel)) (by decide +kernel), mTS (List.mem_of_getElem? (i := 62) (by decide +kernel)) (by decide +kernel), mTS (List.mem_of_getElem? (i := 139) (by decide +kernel)) (by decide +kernel), cw_Model_isSpan, ⟨by decide, by decide, by decide +kernel⟩, by decide +kernel, by decide⟩
theorem fa_Model_13 : FA "InquestHallModel" 13 12 3 true (.array .int) := ⟨_, _, _, _, ok_Model, by decide, mTS (List.mem_of_getElem? (i := 1304) (by decide +kernel)) (by decide +kernel), rfl, rfl⟩
theorem fx_81_3 {G : GS} (w : WF true NC G) : G.2.2 81 3 = 83 := w.2 rfl (81, 3, 83) (by decide)
theorem kd_83 : kd 83 = (0, 32) := rfl
theorem lc_83 : 83 < NC := by decide
theorem fa_Model_16 : FA "InquestHallModel" 16 12 4 true (.array .int) := ⟨_, _, _, _, ok_Model, by decide, mTS (List.mem_of_getElem? (i := 1305) (by decide +kernel)) (by decide +kernel), rfl, rfl⟩
theorem fx_81_4 {G : GS} (w : WF true NC G) : G.2.2 81 4 = 84 := w.2 rfl (81, 4, 84) (by decide)
theorem kd_84 : kd 84 = (0, 32) := rfl
theorem lc_84 : 84 < NC := by decide
theorem fa_Model_19 : FA "InquestHallModel" 19 12 5 true (.array .int) := ⟨_, _, _, _, ok_Model, by decide, mTS (List.mem_of_getElem? (i := 1306) (by decide +kernel)) (by decide +kernel), rfl, rfl⟩
theorem fx_81_5 {G : GS} (w : WF true NC G) : G.2.2 81 5 = 85 := w.2 rfl (81, 5, 85) (by decide)
theorem kd_85 : kd 85 = (0, 32) := rfl
theorem lc_85 : 85 < NC := by decide
theorem fa_Model_22 : FA "InquestHallModel" 22 12 6 true (.array .int) := ⟨_, _, _, _, ok_Model, by decide, mTS (List.mem_of_getElem? (i := 1307) (by decide +kernel)) (by decide +kernel), rfl, rfl⟩
theorem fx_81_6 {G : GS} (w : WF true NC G) : G.2.2 81 6 = 86 := w.2 rfl (81, 6, 86) (by decide)
theorem kd_86 : kd 86 = (0, 32) := rfl
theorem lc_86 : 86 < NC := by decide
theorem fa_Model_25 : FA "InquestHallModel" 25 12 7 true (.array .int) := ⟨_, _, _, _, ok_Model, by decide, mTS (List.mem_of_getElem? (i := 1308) (by decide +kernel)) (by decide +kernel), rfl, rfl⟩
theorem fx_81_7 {G : GS} (w : WF true NC G) : G.2.2 81 7 = 87 := w.2 rfl (81, 7, 87) (by decide)
theorem kd_87 : kd 87 = (0, 32) := rfl
theorem lc_87 : 87 < NC := by decide
theorem fa_Model_28 : FA "InquestHallModel" 28 12 8 true (.array .int) := ⟨_, _, _, _, ok_Model, by decide, mTS (List.mem_of_getElem? (i := 1309) (by decide +kernel)) (by decide +kernel), rfl, rfl⟩
theorem fx_81_8 {G : GS} (w : WF true NC G) : G.2.2 81 8 = 88 := w.2 rfl (81, 8, 88) (by decide)
theorem kd_88 : kd 88 = (0, 32) := rfl
theorem lc_88 : 88 < NC := by decide
def tb_Model_person : List (Nat × Instr × Nat) := [(0, .iload_n 1, 1), (1, .iconst 0, 1), (2, .iconst 1, 1), (3, .invokestatic 188, 3), (6, .ifCond .eq 41, 3), (9, .aload_n 0, 1), (10, .iload_n 2, 1), (11, .iconst 0, 1), (12, .invokevirtual 205, 3), (15, .ifCond .eq 32, 3), (18, .aload_n 0, 1), (19, .iload_n 3, 1), (20, .iconst 1, 1), (21, .invokevirtual 205, 3), (24, .ifCond .eq 23, 3), (27, .aload_n 0, 1), (28, .iload 4, 2), (30, .iload 5, 2), (32, .invokevirtual 209, 3), (35, .ifCond .eq 12, 3), (38, .aload_n 0, 1), (39, .getfield 195, 3), (42, .bipush 32, 2), (44, .if_icmp .ne 5, 3), (47, .iconst (-1), 1), (48, .ireturn, 1), (49, .aload_n 0, 1), (50, .getfield 7, 3), (53, .aload_n 0, 1), (54, .getfield 195, 3), (57, .iload_n 1, 1), (58, .iastore, 1), (59, .aload_n 0, 1), (60, .getfield 13, 3), (63, .aload_n 0, 1), (64, .getfield 195, 3), (67, .iload_n 2, 1), (68, .iastore, 1), (69, .aload_n 0, 1), (70, .getfield 16, 3), (73, .aload_n 0, 1), (74, .getfield 195, 3), (77, .iload_n 3, 1), (78, .iastore, 1), (79, .aload_n 0, 1), (80, .getfield 19, 3), (83, .aload_n 0, 1), (84, .getfield 195, 3), (87, .iload 4, 2), (89, .iastore, 1), (90, .aload_n 0, 1), (91, .getfield 22, 3), (94, .aload_n 0, 1), (95, .getfield 195, 3), (98, .iload 5, 2), (100, .iastore, 1), (101, .aload_n 0, 1), (102, .getfield 25, 3), (105, .aload_n 0, 1), (106, .getfield 195, 3), (109, .iconst (-1), 1), (110, .iastore, 1), (111, .aload_n 0, 1), (112, .getfield 28, 3), (115, .aload_n 0, 1), (116, .getfield 195, 3), (119, .iconst (-1), 1), (120, .iastore, 1), (121, .aload_n 0, 1), (122, .dup, 1), (123, .getfield 195, 3), (126, .iconst 1, 1), (127, .iadd, 1), (128, .putfield 195, 3), (131, .aload_n 0, 1), (132, .getfield 195, 3), (135, .iconst 1, 1), (136, .isub, 1), (137, .ireturn, 1)]
theorem D_Model_person (i : Nat) {pc len : Nat} {ins : Instr} (hi : tb_Model_person[i]? = some (pc, ins, len)) : decode M_Model_person.2.1 pc = .ok (ins, len) := dec_of (by decide +kernel) i hi
def f_Model_person (G : GS) (a1 : Int) (a2 : Int) (a3 : Int) (a4 : Int) (a5 : Int) : Option (Int × GS) :=
  (f_Model_isIn G a1 0 1).bind fun q1 =>
  if q1 = 0 then
    some ((-1), G)
  else
    (f_Model_isOf G a2 0).bind fun q2 =>
    if q2 = 0 then
      some ((-1), G)
    else
      (f_Model_isOf G a3 1).bind fun q3 =>
      if q3 = 0 then
        some ((-1), G)
      else
        (f_Model_isSpan G a4 a5).bind fun q4 =>
        if q4 = 0 then
          some ((-1), G)
        else
          if gi G 81 1 = 32 then
            some ((-1), G)
          else
            gd (0 ≤ gi G 81 1 ∧ gi G 81 1 < 32) <|
            wG (si G 82 (gi G 81 1).toNat a1) fun G1 =>
            gd (0 ≤ gi G1 81 1 ∧ gi G1 81 1 < 32) <|
            wG (si G1 83 (gi G1 81 1).toNat a2) fun G2 =>
            gd (0 ≤ gi G2 81 1 ∧ gi G2 81 1 < 32) <|
            wG (si G2 84 (gi G2 81 1).toNat a3) fun G3 =>
            gd (0 ≤ gi G3 81 1 ∧ gi G3 81 1 < 32) <|
            wG (si G3 85 (gi G3 81 1).toNat a4) fun G4 =>
            gd (0 ≤ gi G4 81 1 ∧ gi G4 81 1 < 32) <|
            wG (si G4 86 (gi G4 81 1).toNat a5) fun G5 =>
            gd (0 ≤ gi G5 81 1 ∧ gi G5 81 1 < 32) <|
            wG (si G5 87 (gi G5 81 1).toNat (-1)) fun G6 =>
            gd (0 ≤ gi G6 81 1 ∧ gi G6 81 1 < 32) <|
            wG (si G6 88 (gi G6 81 1).toNat (-1)) fun G7 =>
            wG (si G7 81 1 ((gi G7 81 1) + 1)) fun G8 =>
            some (wr ((gi G8 81 1) - 1), G8)
theorem c_Model_person {X : XT} {G : GS} {a1 : Int} {a2 : Int} {a3 : Int} {a4 : Int} {a5 : Int} {r : Int × GS} (ha1 : wr a1 = a1) (ha2 : wr a2 = a2) (ha3 : wr a3 = a3) (ha4 : wr a4 = a4) (ha5 : wr a5 = a5) (h : f_Model_person G a1 a2 a3 a4 a5 = some r) : Call X true 9 0 0 M_Model_person [rf X 81, vi a1, vi a2, vi a3, vi a4, vi a5] NC G (Ri r.1 r.2) := by
  refine Call_of_J cw_Model_person (by decide +kernel) (Nat.le_of_ble_eq_true rfl) ?_
  unfold f_Model_person at h
  show J X true 9 0 0 M_Model_person (Ri r.1 r.2) NC 0 0 0 [(0, rf X 81), (1, vi a1), (2, vi a2), (3, vi a3), (4, vi a4), (5, vi a5)] [] G
  refine j_iloadn (k := 1) (D_Model_person 0 rfl) rfl rfl ?_
  refine j_iconst (v := 0) (D_Model_person 1 rfl) rfl ?_
  refine j_iconst (v := 1) (D_Model_person 2 rfl) rfl ?_
  obtain ⟨q1, e1, h⟩ := Option.bind_eq_some_iff.mp h
  refine j_cSz (c_Model_isIn (ha1) (wr_lit rfl) (wr_lit rfl) e1) rfl lk_Model_188 sok_Model_isIn (by decide) rfl rfl (Nat.le_of_ble_eq_true rfl) (D_Model_person 3 rfl) (fun w1 bw1 => ?_)
  refine j_if_eq (tgt := 47) (D_Model_person 4 rfl) rfl (w1) (fun c1 => ?_) (fun c1 => ?_)
  · replace h := ite_t h c1
    refine j_iconst (v := (-1)) (D_Model_person 24 rfl) rfl ?_
    exact j_iret (D_Model_person 25 rfl) rfl (wr_lit rfl) rfl rfl (leafI h (wr_n (wr_lit rfl)))
  · replace h := ite_f h c1
    refine j_aloadn (k := 0) (D_Model_person 5 rfl) rfl rfl ?_
    refine j_iloadn (k := 2) (D_Model_person 6 rfl) rfl rfl ?_
    refine j_iconst (v := 0) (D_Model_person 7 rfl) rfl ?_
    obtain ⟨q2, e2, h⟩ := Option.bind_eq_some_iff.mp h
    refine j_cVz (c_Model_isOf (ha2) (wr_lit rfl) e2) rfl lk_Model_205 mok_Model_isOf kd_81 lc_81 rfl (by decide) rfl rfl (Nat.le_of_ble_eq_true rfl) (D_Model_person 8 rfl) (fun w2 bw2 => ?_)
    refine j_if_eq (tgt := 47) (D_Model_person 9 rfl) rfl (w2) (fun c2 => ?_) (fun c2 => ?_)
    · replace h := ite_t h c2
      refine j_iconst (v := (-1)) (D_Model_person 24 rfl) rfl ?_
      exact j_iret (D_Model_person 25 rfl) rfl (wr_lit rfl) rfl rfl (leafI h (wr_n (wr_lit rfl)))
    · replace h := ite_f h c2
      refine j_aloadn (k := 0) (D_Model_person 10 rfl) rfl rfl ?_
      refine j_iloadn (k := 3) (D_Model_person 11 rfl) rfl rfl ?_
      refine j_iconst (v := 1) (D_Model_person 12 rfl) rfl ?_
      obtain ⟨q3, e3, h⟩ := Option.bind_eq_some_iff.mp h
      refine j_cVz (c_Model_isOf (ha3) (wr_lit rfl) e3) rfl lk_Model_205 mok_Model_isOf kd_81 lc_81 rfl (by decide) rfl rfl (Nat.le_of_ble_eq_true rfl) (D_Model_person 13 rfl) (fun w3 bw3 => ?_)
      refine j_if_eq (tgt := 47) (D_Model_person 14 rfl) rfl (w3) (fun c3 => ?_) (fun c3 => ?_)
      · replace h := ite_t h c3
        refine j_iconst (v := (-1)) (D_Model_person 24 rfl) rfl ?_
        exact j_iret (D_Model_person 25 rfl) rfl (wr_lit rfl) rfl rfl (leafI h (wr_n (wr_lit rfl)))
      · replace h := ite_f h c3
        refine j_aloadn (k := 0) (D_Model_person 15 rfl) rfl rfl ?_
        refine j_iload (k := 4) (D_Model_person 16 rfl) rfl ?_
        refine j_iload (k := 5) (D_Model_person 17 rfl) rfl ?_
        obtain ⟨q4, e4, h⟩ := Option.bind_eq_some_iff.mp h
        refine j_cVz (c_Model_isSpan (ha4) (ha5) e4) rfl lk_Model_209 mok_Model_isSpan kd_81 lc_81 rfl (by decide) rfl rfl (Nat.le_of_ble_eq_true rfl) (D_Model_person 18 rfl) (fun w4 bw4 => ?_)
        refine j_if_eq (tgt := 47) (D_Model_person 19 rfl) rfl (w4) (fun c4 => ?_) (fun c4 => ?_)
        · replace h := ite_t h c4
          refine j_iconst (v := (-1)) (D_Model_person 24 rfl) rfl ?_
          exact j_iret (D_Model_person 25 rfl) rfl (wr_lit rfl) rfl rfl (leafI h (wr_n (wr_lit rfl)))
        · replace h := ite_f h c4
          refine j_aloadn (k := 0) (D_Model_person 20 rfl) rfl rfl ?_
          refine j_getI rfl fa_Model_195 kd_81 lc_81 (by decide) rfl (D_Model_person 21 rfl) ?_
          refine j_bipush (v := 32) (D_Model_person 22 rfl) rfl ?_
          refine j_ic_ne (tgt := 49) (D_Model_person 23 rfl) rfl (wr_gi _ _ _) (wr_lit rfl) (fun c5 => ?_) (fun c5 => ?_)
          · replace h := ite_f h c5
            refine j_aloadn (k := 0) (D_Model_person 26 rfl) rfl rfl ?_
            refine j_getR rfl fa_Model_7 kd_81 lc_81 (by decide) rfl fx_81_2 (by decide) (D_Model_person 27 rfl) ?_
            refine j_aloadn (k := 0) (D_Model_person 28 rfl) rfl rfl ?_
            refine j_getI rfl fa_Model_195 kd_81 lc_81 (by decide) rfl (D_Model_person 29 rfl) ?_
            refine j_iloadn (k := 1) (D_Model_person 30 rfl) rfl rfl ?_
            have g1 := gd_c h
            replace h := gd_s h
            refine j_iast (NI := 32) (D_Model_person 31 rfl) kd_82 lc_82 (wr_gi _ _ _) rfl g1.1 g1.2 ?_
            refine j_gen (fun G1 e5 => ?_)
            replace h := wG_at h e5
            refine j_aloadn (k := 0) (D_Model_person 32 rfl) rfl rfl ?_
            refine j_getR rfl fa_Model_13 kd_81 lc_81 (by decide) rfl fx_81_3 (by decide) (D_Model_person 33 rfl) ?_
            refine j_aloadn (k := 0) (D_Model_person 34 rfl) rfl rfl ?_
            refine j_getI rfl fa_Model_195 kd_81 lc_81 (by decide) rfl (D_Model_person 35 rfl) ?_
            refine j_iloadn (k := 2) (D_Model_person 36 rfl) rfl rfl ?_
            have g2 := gd_c h
            replace h := gd_s h
            refine j_iast (NI := 32) (D_Model_person 37 rfl) kd_83 lc_83 (wr_gi _ _ _) rfl g2.1 g2.2 ?_
            refine j_gen (fun G2 e6 => ?_)
            replace h := wG_at h e6
            refine j_aloadn (k := 0) (D_Model_person 38 rfl) rfl rfl ?_
            refine j_getR rfl fa_Model_16 kd_81 lc_81 (by decide) rfl fx_81_4 (by decide) (D_Model_person 39 rfl) ?_
            refine j_aloadn (k := 0) (D_Model_person 40 rfl) rfl rfl ?_
            refine j_getI rfl fa_Model_195 kd_81 lc_81 (by decide) rfl (D_Model_person 41 rfl) ?_
            refine j_iloadn (k := 3) (D_Model_person 42 rfl) rfl rfl ?_
            have g3 := gd_c h
            replace h := gd_s h
            refine j_iast (NI := 32) (D_Model_person 43 rfl) kd_84 lc_84 (wr_gi _ _ _) rfl g3.1 g3.2 ?_
            refine j_gen (fun G3 e7 => ?_)
            replace h := wG_at h e7
            refine j_aloadn (k := 0) (D_Model_person 44 rfl) rfl rfl ?_
            refine j_getR rfl fa_Model_19 kd_81 lc_81 (by decide) rfl fx_81_5 (by decide) (D_Model_person 45 rfl) ?_
            refine j_aloadn (k := 0) (D_Model_person 46 rfl) rfl rfl ?_
            refine j_getI rfl fa_Model_195 kd_81 lc_81 (by decide) rfl (D_Model_person 47 rfl) ?_
            refine j_iload (k := 4) (D_Model_person 48 rfl) rfl ?_
            have g4 := gd_c h
            replace h := gd_s h
            refine j_iast (NI := 32) (D_Model_person 49 rfl) kd_85 lc_85 (wr_gi _ _ _) rfl g4.1 g4.2 ?_
            refine j_gen (fun G4 e8 => ?_)
            replace h := wG_at h e8
            refine j_aloadn (k := 0) (D_Model_person 50 rfl) rfl rfl ?_
            refine j_getR rfl fa_Model_22 kd_81 lc_81 (by decide) rfl fx_81_6 (by decide) (D_Model_person 51 rfl) ?_
            refine j_aloadn (k := 0) (D_Model_person 52 rfl) rfl rfl ?_
            refine j_getI rfl fa_Model_195 kd_81 lc_81 (by decide) rfl (D_Model_person 53 rfl) ?_
            refine j_iload (k := 5) (D_Model_person 54 rfl) rfl ?_
            have g5 := gd_c h
            replace h := gd_s h
            refine j_iast (NI := 32) (D_Model_person 55 rfl) kd_86 lc_86 (wr_gi _ _ _) rfl g5.1 g5.2 ?_
            refine j_gen (fun G5 e9 => ?_)
            replace h := wG_at h e9
            refine j_aloadn (k := 0) (D_Model_person 56 rfl) rfl rfl ?_
            refine j_getR rfl fa_Model_25 kd_81 lc_81 (by decide) rfl fx_81_7 (by decide) (D_Model_person 57 rfl) ?_
            refine j_aloadn (k := 0) (D_Model_person 58 rfl) rfl rfl ?_
            refine j_getI rfl fa_Model_195 kd_81 lc_81 (by decide) rfl (D_Model_person 59 rfl) ?_
            refine j_iconst (v := (-1)) (D_Model_person 60 rfl) rfl ?_
            have g6 := gd_c h
            replace h := gd_s h
            refine j_iast (NI := 32) (D_Model_person 61 rfl) kd_87 lc_87 (wr_gi _ _ _) rfl g6.1 g6.2 ?_
            refine j_gen (fun G6 e10 => ?_)
            replace h := wG_at h e10
            refine j_aloadn (k := 0) (D_Model_person 62 rfl) rfl rfl ?_
            refine j_getR rfl fa_Model_28 kd_81 lc_81 (by decide) rfl fx_81_8 (by decide) (D_Model_person 63 rfl) ?_
            refine j_aloadn (k := 0) (D_Model_person 64 rfl) rfl rfl ?_
            refine j_getI rfl fa_Model_195 kd_81 lc_81 (by decide) rfl (D_Model_person 65 rfl) ?_
            refine j_iconst (v := (-1)) (D_Model_person 66 rfl) rfl ?_
            have g7 := gd_c h
            replace h := gd_s h
            refine j_iast (NI := 32) (D_Model_person 67 rfl) kd_88 lc_88 (wr_gi _ _ _) rfl g7.1 g7.2 ?_
            refine j_gen (fun G7 e11 => ?_)
            replace h := wG_at h e11
            refine j_aloadn (k := 0) (D_Model_person 68 rfl) rfl rfl ?_
            refine j_dup (D_Model_person 69 rfl) rfl ?_
            refine j_getI rfl fa_Model_195 kd_81 lc_81 (by decide) rfl (D_Model_person 70 rfl) ?_
            refine j_iconst (v := 1) (D_Model_person 71 rfl) rfl ?_
            refine j_iadd (D_Model_person 72 rfl) ?_
            refine j_putI rfl fa_Model_195 kd_81 lc_81 (by decide) rfl (D_Model_person 73 rfl) ?_
            refine j_gen (fun G8 e12 => ?_)
            replace h := wG_at h e12
            refine j_aloadn (k := 0) (D_Model_person 74 rfl) rfl rfl ?_
            refine j_getI rfl fa_Model_195 kd_81 lc_81 (by decide) rfl (D_Model_person 75 rfl) ?_
            refine j_iconst (v := 1) (D_Model_person 76 rfl) rfl ?_
            refine j_isub (D_Model_person 77 rfl) ?_
            exact j_iret (D_Model_person 78 rfl) rfl (rfl) rfl rfl (leafI h (wr_n (rfl)))
          · replace h := ite_t h c5
            refine j_iconst (v := (-1)) (D_Model_person 24 rfl) rfl ?_
            exact j_iret (D_Model_person 25 rfl) rfl (wr_lit rfl) rfl rfl (leafI h (wr_n (wr_lit rfl)))
abbrev M_People_isDead : MI := (⟨"InquestHall$People", "isDead", "(I)Z"⟩, prog_8_method_6_code, 2, (some .boolean))
theorem cw_People_isDead : Cond.code M_People_isDead.1 M_People_isDead.2.1 M_People_isDead.2.2.1 M_People_isDead.2.2.2 ∈ TS := mTS (List.mem_of_getElem? (i := 674) (by decide +kernel)) (by decide +kernel)
def tb_People_isDead : List (Nat × Instr × Nat) := [(0, .aload_n 0, 1), (1, .iload_n 1, 1), (2, .invokevirtual 37, 3), (5, .ifCond .eq 17, 3), (8, .aload_n 0, 1), (9, .getfield 27, 3), (12, .iload_n 1, 1), (13, .iaload, 1), (14, .iconst (-1), 1), (15, .if_icmp .eq 7, 3), (18, .iconst 1, 1), (19, .goto 4, 3), (22, .iconst 0, 1), (23, .ireturn, 1)]
theorem D_People_isDead (i : Nat) {pc len : Nat} {ins : Instr} (hi : tb_People_isDead[i]? = some (pc, ins, len)) : decode M_People_isDead.2.1 pc = .ok (ins, len) := dec_of (by decide +kernel) i hi
def f_People_isDead (G : GS) (a1 : Int) : Option (Int) :=
  (f_People_has G a1).bind fun q1 =>
  if q1 = 0 then
    some 0
  else
    gd (0 ≤ a1 ∧ a1 < 32) <|
    if gi G 7 a1.toNat = (-1) then
      some 0
    else
      some 1
theorem c_People_isDead {X : XT} {G : GS} {a1 : Int} {r : Int} (ha1 : wr a1 = a1) (h : f_People_isDead G a1 = some r) : Call X true 7 0 0 M_People_isDead [rf X 1, vi a1] NC G (Rz r G) := by
  refine Call_of_J cw_People_isDead (by decide +kernel) (Nat.le_of_ble_eq_true rfl) ?_
  unfold f_People_isDead at h
  show J X true 7 0 0 M_People_isDead (Rz r G) NC 0 0 0 [(0, rf X 1), (1, vi a1)] [] G
  refine j_aloadn (k := 0) (D_People_isDead 0 rfl) rfl rfl ?_
  refine j_iloadn (k := 1) (D_People_isDead 1 rfl) rfl rfl ?_
  obtain ⟨q1, e1, h⟩ := Option.bind_eq_some_iff.mp h
  refine j_cVz (c_People_has (ha1) e1) rfl lk_People_37 mok_People_has kd_1 lc_1 rfl (by decide) rfl rfl (Nat.le_of_ble_eq_true rfl) (D_People_isDead 2 rfl) (fun w1 bw1 => ?_)
  refine j_if_eq (tgt := 22) (D_People_isDead 3 rfl) rfl (w1) (fun c1 => ?_) (fun c1 => ?_)
  · replace h := ite_t h c1
    refine j_iconst (v := 0) (D_People_isDead 12 rfl) rfl ?_
    exact j_zret (D_People_isDead 13 rfl) rfl (wr_lit rfl) (nz_01 (by decide)) rfl rfl (leafZo h (wr_n (wr_lit rfl)) (by decide))
  · replace h := ite_f h c1
    refine j_aloadn (k := 0) (D_People_isDead 4 rfl) rfl rfl ?_
    refine j_getR rfl fa_People_27 kd_1 lc_1 (by decide) rfl fx_1_5 (by decide) (D_People_isDead 5 rfl) ?_
    refine j_iloadn (k := 1) (D_People_isDead 6 rfl) rfl rfl ?_
    have g1 := gd_c h
    replace h := gd_s h
    refine j_iald (NI := 32) (D_People_isDead 7 rfl) kd_7 lc_7 (ha1) rfl g1.1 g1.2 ?_
    refine j_iconst (v := (-1)) (D_People_isDead 8 rfl) rfl ?_
    refine j_ic_eq (tgt := 22) (D_People_isDead 9 rfl) rfl (wr_gi _ _ _) (wr_lit rfl) (fun c2 => ?_) (fun c2 => ?_)
    · replace h := ite_t h c2
      refine j_iconst (v := 0) (D_People_isDead 12 rfl) rfl ?_
      exact j_zret (D_People_isDead 13 rfl) rfl (wr_lit rfl) (nz_01 (by decide)) rfl rfl (leafZo h (wr_n (wr_lit rfl)) (by decide))
    · replace h := ite_f h c2
      refine j_iconst (v := 1) (D_People_isDead 10 rfl) rfl ?_
      refine j_goto (tgt := 23) (D_People_isDead 11 rfl) rfl ?_
      exact j_zret (D_People_isDead 13 rfl) rfl (wr_lit rfl) (nz_01 (by decide)) rfl rfl (leafZo h (wr_n (wr_lit rfl)) (by decide))
abbrev M_Hall_dies : MI := (⟨"InquestHall", "dies", "(II)Z"⟩, prog_1_method_4_code, 3, (some .boolean))
theorem cw_Hall_dies : Cond.code M_Hall_dies.1 M_Hall_dies.2.1 M_Hall_dies.2.2.1 M_Hall_dies.2.2.2 ∈ TS := mTS (List.mem_of_getElem? (i := 669) (by decide +kernel)) (by decide +kernel)
theorem lk_Hall_122 : Cond.methodLink "InquestHall" 122 M_People_has.1 ∈ TS := mTS (List.mem_of_getElem? (i := 670) (by decide +kernel)) (by decide +kernel)
theorem lk_Hall_125 : Cond.methodLink "InquestHall" 125 M_People_isDead.1 ∈ TS := mTS (List.mem_of_getElem? (i := 671) (by decide +kernel)) (by decide +kernel)
theorem mok_People_isDead : MOK M_People_isDead 1 := ⟨mTS (List.mem_of_getElem? (i := 672) (by decide +kernel)) (by decide +kernel), mTS (List.mem_of_getElem? (i := 673) (by decide +kernel)) (by decide +kernel), mTS (List.mem_of_getElem? (i := 123) (by decide +kernel)) (by decide +kernel), cw_People_isDead, ⟨by decide, by decide, by decide +kernel⟩, by decide +kernel, by decide⟩
theorem fa_Hall_128 : FA "InquestHall" 128 1 3 true (.array .int) := ⟨_, _, _, _, ok_People, by decide, mTS (List.mem_of_getElem? (i := 165) (by decide +kernel)) (by decide +kernel), rfl, rfl⟩
theorem fa_Hall_131 : FA "InquestHall" 131 1 5 true (.array .int) := ⟨_, _, _, _, ok_People, by decide, mTS (List.mem_of_getElem? (i := 171) (by decide +kernel)) (by decide +kernel), rfl, rfl⟩
def tb_Hall_dies : List (Nat × Instr × Nat) := [(0, .aload_n 0, 1), (1, .getfield 12, 3), (4, .iload_n 1, 1), (5, .invokevirtual 122, 3), (8, .ifCond .eq 35, 3), (11, .aload_n 0, 1), (12, .getfield 12, 3), (15, .iload_n 1, 1), (16, .invokevirtual 125, 3), (19, .ifCond .ne 24, 3), (22, .iload_n 2, 1), (23, .aload_n 0, 1), (24, .getfield 12, 3), (27, .getfield 128, 3), (30, .iload_n 1, 1), (31, .iaload, 1), (32, .if_icmp .lt 11, 3), (35, .iload_n 2, 1), (36, .aload_n 0, 1), (37, .getfield 104, 3), (40, .if_icmp .le 5, 3), (43, .iconst 0, 1), (44, .ireturn, 1), (45, .aload_n 0, 1), (46, .getfield 12, 3), (49, .getfield 131, 3), (52, .iload_n 1, 1), (53, .iload_n 2, 1), (54, .iastore, 1), (55, .iconst 1, 1), (56, .ireturn, 1)]
theorem D_Hall_dies (i : Nat) {pc len : Nat} {ins : Instr} (hi : tb_Hall_dies[i]? = some (pc, ins, len)) : decode M_Hall_dies.2.1 pc = .ok (ins, len) := dec_of (by decide +kernel) i hi
def f_Hall_dies (G : GS) (a1 : Int) (a2 : Int) : Option (Int × GS) :=
  (f_People_has G a1).bind fun q1 =>
  if q1 = 0 then
    some (0, G)
  else
    (f_People_isDead G a1).bind fun q2 =>
    if q2 = 0 then
      gd (0 ≤ a1 ∧ a1 < 32) <|
      if a2 < gi G 5 a1.toNat then
        some (0, G)
      else
        if a2 ≤ gi G 0 14 then
          gd (0 ≤ a1 ∧ a1 < 32) <|
          wG (si G 7 a1.toNat a2) fun G1 =>
          some (1, G1)
        else
          some (0, G)
    else
      some (0, G)
theorem c_Hall_dies {X : XT} {G : GS} {a1 : Int} {a2 : Int} {r : Int × GS} (ha1 : wr a1 = a1) (ha2 : wr a2 = a2) (h : f_Hall_dies G a1 a2 = some r) : Call X true 8 0 0 M_Hall_dies [rf X 0, vi a1, vi a2] NC G (Rz r.1 r.2) := by
  refine Call_of_J cw_Hall_dies (by decide +kernel) (Nat.le_of_ble_eq_true rfl) ?_
  unfold f_Hall_dies at h
  show J X true 8 0 0 M_Hall_dies (Rz r.1 r.2) NC 0 0 0 [(0, rf X 0), (1, vi a1), (2, vi a2)] [] G
  refine j_aloadn (k := 0) (D_Hall_dies 0 rfl) rfl rfl ?_
  refine j_getR rfl fa_Hall_12 kd_0 lc_0 (by decide) rfl fx_0_0 (by decide) (D_Hall_dies 1 rfl) ?_
  refine j_iloadn (k := 1) (D_Hall_dies 2 rfl) rfl rfl ?_
  obtain ⟨q1, e1, h⟩ := Option.bind_eq_some_iff.mp h
  refine j_cVz (c_People_has (ha1) e1) rfl lk_Hall_122 mok_People_has kd_1 lc_1 rfl (by decide) rfl rfl (Nat.le_of_ble_eq_true rfl) (D_Hall_dies 3 rfl) (fun w1 bw1 => ?_)
  refine j_if_eq (tgt := 43) (D_Hall_dies 4 rfl) rfl (w1) (fun c1 => ?_) (fun c1 => ?_)
  · replace h := ite_t h c1
    refine j_iconst (v := 0) (D_Hall_dies 21 rfl) rfl ?_
    exact j_zret (D_Hall_dies 22 rfl) rfl (wr_lit rfl) (nz_01 (by decide)) rfl rfl (leafZ h (wr_n (wr_lit rfl)) (by decide))
  · replace h := ite_f h c1
    refine j_aloadn (k := 0) (D_Hall_dies 5 rfl) rfl rfl ?_
    refine j_getR rfl fa_Hall_12 kd_0 lc_0 (by decide) rfl fx_0_0 (by decide) (D_Hall_dies 6 rfl) ?_
    refine j_iloadn (k := 1) (D_Hall_dies 7 rfl) rfl rfl ?_
    obtain ⟨q2, e2, h⟩ := Option.bind_eq_some_iff.mp h
    refine j_cVz (c_People_isDead (ha1) e2) rfl lk_Hall_125 mok_People_isDead kd_1 lc_1 rfl (by decide) rfl rfl (Nat.le_of_ble_eq_true rfl) (D_Hall_dies 8 rfl) (fun w2 bw2 => ?_)
    refine j_if_ne (tgt := 43) (D_Hall_dies 9 rfl) rfl (w2) (fun c2 => ?_) (fun c2 => ?_)
    · replace h := ite_f h c2
      refine j_iconst (v := 0) (D_Hall_dies 21 rfl) rfl ?_
      exact j_zret (D_Hall_dies 22 rfl) rfl (wr_lit rfl) (nz_01 (by decide)) rfl rfl (leafZ h (wr_n (wr_lit rfl)) (by decide))
    · replace h := ite_t h c2
      refine j_iloadn (k := 2) (D_Hall_dies 10 rfl) rfl rfl ?_
      refine j_aloadn (k := 0) (D_Hall_dies 11 rfl) rfl rfl ?_
      refine j_getR rfl fa_Hall_12 kd_0 lc_0 (by decide) rfl fx_0_0 (by decide) (D_Hall_dies 12 rfl) ?_
      refine j_getR rfl fa_Hall_128 kd_1 lc_1 (by decide) rfl fx_1_3 (by decide) (D_Hall_dies 13 rfl) ?_
      refine j_iloadn (k := 1) (D_Hall_dies 14 rfl) rfl rfl ?_
      have g1 := gd_c h
      replace h := gd_s h
      refine j_iald (NI := 32) (D_Hall_dies 15 rfl) kd_5 lc_5 (ha1) rfl g1.1 g1.2 ?_
      refine j_ic_lt (tgt := 43) (D_Hall_dies 16 rfl) rfl (ha2) (wr_gi _ _ _) (fun c3 => ?_) (fun c3 => ?_)
      · replace h := ite_t h c3
        refine j_iconst (v := 0) (D_Hall_dies 21 rfl) rfl ?_
        exact j_zret (D_Hall_dies 22 rfl) rfl (wr_lit rfl) (nz_01 (by decide)) rfl rfl (leafZ h (wr_n (wr_lit rfl)) (by decide))
      · replace h := ite_f h c3
        refine j_iloadn (k := 2) (D_Hall_dies 17 rfl) rfl rfl ?_
        refine j_aloadn (k := 0) (D_Hall_dies 18 rfl) rfl rfl ?_
        refine j_getI rfl fa_Hall_104 kd_0 lc_0 (by decide) rfl (D_Hall_dies 19 rfl) ?_
        refine j_ic_le (tgt := 45) (D_Hall_dies 20 rfl) rfl (ha2) (wr_gi _ _ _) (fun c4 => ?_) (fun c4 => ?_)
        · replace h := ite_t h c4
          refine j_aloadn (k := 0) (D_Hall_dies 23 rfl) rfl rfl ?_
          refine j_getR rfl fa_Hall_12 kd_0 lc_0 (by decide) rfl fx_0_0 (by decide) (D_Hall_dies 24 rfl) ?_
          refine j_getR rfl fa_Hall_131 kd_1 lc_1 (by decide) rfl fx_1_5 (by decide) (D_Hall_dies 25 rfl) ?_
          refine j_iloadn (k := 1) (D_Hall_dies 26 rfl) rfl rfl ?_
          refine j_iloadn (k := 2) (D_Hall_dies 27 rfl) rfl rfl ?_
          have g2 := gd_c h
          replace h := gd_s h
          refine j_iast (NI := 32) (D_Hall_dies 28 rfl) kd_7 lc_7 (ha1) rfl g2.1 g2.2 ?_
          refine j_gen (fun G1 e3 => ?_)
          replace h := wG_at h e3
          refine j_iconst (v := 1) (D_Hall_dies 29 rfl) rfl ?_
          exact j_zret (D_Hall_dies 30 rfl) rfl (wr_lit rfl) (nz_01 (by decide)) rfl rfl (leafZ h (wr_n (wr_lit rfl)) (by decide))
        · replace h := ite_f h c4
          refine j_iconst (v := 0) (D_Hall_dies 21 rfl) rfl ?_
          exact j_zret (D_Hall_dies 22 rfl) rfl (wr_lit rfl) (nz_01 (by decide)) rfl rfl (leafZ h (wr_n (wr_lit rfl)) (by decide))
abbrev M_Model_dies : MI := (⟨"InquestHallModel", "dies", "(II)Z"⟩, prog_14_method_9_code, 3, (some .boolean))
theorem cw_Model_dies : Cond.code M_Model_dies.1 M_Model_dies.2.1 M_Model_dies.2.2.1 M_Model_dies.2.2.2 ∈ TS := mTS (List.mem_of_getElem? (i := 1593) (by decide +kernel)) (by decide +kernel)
def tb_Model_dies : List (Nat × Instr × Nat) := [(0, .aload_n 0, 1), (1, .iload_n 1, 1), (2, .invokevirtual 198, 3), (5, .ifCond .eq 30, 3), (8, .aload_n 0, 1), (9, .getfield 25, 3), (12, .iload_n 1, 1), (13, .iaload, 1), (14, .iconst (-1), 1), (15, .if_icmp .ne 20, 3), (18, .iload_n 2, 1), (19, .aload_n 0, 1), (20, .getfield 19, 3), (23, .iload_n 1, 1), (24, .iaload, 1), (25, .aload_n 0, 1), (26, .getfield 192, 3), (29, .invokestatic 188, 3), (32, .ifCond .ne 5, 3), (35, .iconst 0, 1), (36, .ireturn, 1), (37, .aload_n 0, 1), (38, .getfield 25, 3), (41, .iload_n 1, 1), (42, .iload_n 2, 1), (43, .iastore, 1), (44, .iconst 1, 1), (45, .ireturn, 1)]
theorem D_Model_dies (i : Nat) {pc len : Nat} {ins : Instr} (hi : tb_Model_dies[i]? = some (pc, ins, len)) : decode M_Model_dies.2.1 pc = .ok (ins, len) := dec_of (by decide +kernel) i hi
def f_Model_dies (G : GS) (a1 : Int) (a2 : Int) : Option (Int × GS) :=
  (f_Model_isPerson G a1).bind fun q1 =>
  if q1 = 0 then
    some (0, G)
  else
    gd (0 ≤ a1 ∧ a1 < 32) <|
    if gi G 87 a1.toNat = (-1) then
      gd (0 ≤ a1 ∧ a1 < 32) <|
      (f_Model_isIn G a2 (gi G 85 a1.toNat) (gi G 81 0)).bind fun q2 =>
      if q2 = 0 then
        some (0, G)
      else
        gd (0 ≤ a1 ∧ a1 < 32) <|
        wG (si G 87 a1.toNat a2) fun G1 =>
        some (1, G1)
    else
      some (0, G)
theorem c_Model_dies {X : XT} {G : GS} {a1 : Int} {a2 : Int} {r : Int × GS} (ha1 : wr a1 = a1) (ha2 : wr a2 = a2) (h : f_Model_dies G a1 a2 = some r) : Call X true 8 0 0 M_Model_dies [rf X 81, vi a1, vi a2] NC G (Rz r.1 r.2) := by
  refine Call_of_J cw_Model_dies (by decide +kernel) (Nat.le_of_ble_eq_true rfl) ?_
  unfold f_Model_dies at h
  show J X true 8 0 0 M_Model_dies (Rz r.1 r.2) NC 0 0 0 [(0, rf X 81), (1, vi a1), (2, vi a2)] [] G
  refine j_aloadn (k := 0) (D_Model_dies 0 rfl) rfl rfl ?_
  refine j_iloadn (k := 1) (D_Model_dies 1 rfl) rfl rfl ?_
  obtain ⟨q1, e1, h⟩ := Option.bind_eq_some_iff.mp h
  refine j_cVz (c_Model_isPerson (ha1) e1) rfl lk_Model_198 mok_Model_isPerson kd_81 lc_81 rfl (by decide) rfl rfl (Nat.le_of_ble_eq_true rfl) (D_Model_dies 2 rfl) (fun w1 bw1 => ?_)
  refine j_if_eq (tgt := 35) (D_Model_dies 3 rfl) rfl (w1) (fun c1 => ?_) (fun c1 => ?_)
  · replace h := ite_t h c1
    refine j_iconst (v := 0) (D_Model_dies 19 rfl) rfl ?_
    exact j_zret (D_Model_dies 20 rfl) rfl (wr_lit rfl) (nz_01 (by decide)) rfl rfl (leafZ h (wr_n (wr_lit rfl)) (by decide))
  · replace h := ite_f h c1
    refine j_aloadn (k := 0) (D_Model_dies 4 rfl) rfl rfl ?_
    refine j_getR rfl fa_Model_25 kd_81 lc_81 (by decide) rfl fx_81_7 (by decide) (D_Model_dies 5 rfl) ?_
    refine j_iloadn (k := 1) (D_Model_dies 6 rfl) rfl rfl ?_
    have g1 := gd_c h
    replace h := gd_s h
    refine j_iald (NI := 32) (D_Model_dies 7 rfl) kd_87 lc_87 (ha1) rfl g1.1 g1.2 ?_
    refine j_iconst (v := (-1)) (D_Model_dies 8 rfl) rfl ?_
    refine j_ic_ne (tgt := 35) (D_Model_dies 9 rfl) rfl (wr_gi _ _ _) (wr_lit rfl) (fun c2 => ?_) (fun c2 => ?_)
    · replace h := ite_f h c2
      refine j_iconst (v := 0) (D_Model_dies 19 rfl) rfl ?_
      exact j_zret (D_Model_dies 20 rfl) rfl (wr_lit rfl) (nz_01 (by decide)) rfl rfl (leafZ h (wr_n (wr_lit rfl)) (by decide))
    · replace h := ite_t h c2
      refine j_iloadn (k := 2) (D_Model_dies 10 rfl) rfl rfl ?_
      refine j_aloadn (k := 0) (D_Model_dies 11 rfl) rfl rfl ?_
      refine j_getR rfl fa_Model_19 kd_81 lc_81 (by decide) rfl fx_81_5 (by decide) (D_Model_dies 12 rfl) ?_
      refine j_iloadn (k := 1) (D_Model_dies 13 rfl) rfl rfl ?_
      have g2 := gd_c h
      replace h := gd_s h
      refine j_iald (NI := 32) (D_Model_dies 14 rfl) kd_85 lc_85 (ha1) rfl g2.1 g2.2 ?_
      refine j_aloadn (k := 0) (D_Model_dies 15 rfl) rfl rfl ?_
      refine j_getI rfl fa_Model_192 kd_81 lc_81 (by decide) rfl (D_Model_dies 16 rfl) ?_
      obtain ⟨q2, e2, h⟩ := Option.bind_eq_some_iff.mp h
      refine j_cSz (c_Model_isIn (ha2) (wr_gi _ _ _) (wr_gi _ _ _) e2) rfl lk_Model_188 sok_Model_isIn (by decide) rfl rfl (Nat.le_of_ble_eq_true rfl) (D_Model_dies 17 rfl) (fun w2 bw2 => ?_)
      refine j_if_ne (tgt := 37) (D_Model_dies 18 rfl) rfl (w2) (fun c3 => ?_) (fun c3 => ?_)
      · replace h := ite_f h c3
        refine j_aloadn (k := 0) (D_Model_dies 21 rfl) rfl rfl ?_
        refine j_getR rfl fa_Model_25 kd_81 lc_81 (by decide) rfl fx_81_7 (by decide) (D_Model_dies 22 rfl) ?_
        refine j_iloadn (k := 1) (D_Model_dies 23 rfl) rfl rfl ?_
        refine j_iloadn (k := 2) (D_Model_dies 24 rfl) rfl rfl ?_
        have g3 := gd_c h
        replace h := gd_s h
        refine j_iast (NI := 32) (D_Model_dies 25 rfl) kd_87 lc_87 (ha1) rfl g3.1 g3.2 ?_
        refine j_gen (fun G1 e3 => ?_)
        replace h := wG_at h e3
        refine j_iconst (v := 1) (D_Model_dies 26 rfl) rfl ?_
        exact j_zret (D_Model_dies 27 rfl) rfl (wr_lit rfl) (nz_01 (by decide)) rfl rfl (leafZ h (wr_n (wr_lit rfl)) (by decide))
      · replace h := ite_t h c3
        refine j_iconst (v := 0) (D_Model_dies 19 rfl) rfl ?_
        exact j_zret (D_Model_dies 20 rfl) rfl (wr_lit rfl) (nz_01 (by decide)) rfl rfl (leafZ h (wr_n (wr_lit rfl)) (by decide))
abbrev M_Hall_marry : MI := (⟨"InquestHall", "marry", "(II)Z"⟩, prog_1_method_5_code, 3, (some .boolean))
theorem cw_Hall_marry : Cond.code M_Hall_marry.1 M_Hall_marry.2.1 M_Hall_marry.2.2.1 M_Hall_marry.2.2.2 ∈ TS := mTS (List.mem_of_getElem? (i := 678) (by decide +kernel)) (by decide +kernel)
theorem fa_Hall_134 : FA "InquestHall" 134 1 6 true (.array .int) := ⟨_, _, _, _, ok_People, by decide, mTS (List.mem_of_getElem? (i := 173) (by decide +kernel)) (by decide +kernel), rfl, rfl⟩
def tb_Hall_marry : List (Nat × Instr × Nat) := [(0, .aload_n 0, 1), (1, .getfield 12, 3), (4, .iload_n 1, 1), (5, .invokevirtual 107, 3), (8, .ifCond .eq 19, 3), (11, .iload_n 2, 1), (12, .iconst (-1), 1), (13, .if_icmp .eq 16, 3), (16, .aload_n 0, 1), (17, .getfield 12, 3), (20, .iload_n 2, 1), (21, .invokevirtual 111, 3), (24, .ifCond .ne 5, 3), (27, .iconst 0, 1), (28, .ireturn, 1), (29, .aload_n 0, 1), (30, .getfield 12, 3), (33, .getfield 134, 3), (36, .iload_n 1, 1), (37, .iload_n 2, 1), (38, .iastore, 1), (39, .iconst 1, 1), (40, .ireturn, 1)]
theorem D_Hall_marry (i : Nat) {pc len : Nat} {ins : Instr} (hi : tb_Hall_marry[i]? = some (pc, ins, len)) : decode M_Hall_marry.2.1 pc = .ok (ins, len) := dec_of (by decide +kernel) i hi
def f_Hall_marry_L29 (G : GS) (x1 : Int) (x2 : Int) : Option (Int × GS) :=
  gd (0 ≤ x1 ∧ x1 < 32) <|
  wG (si G 8 x1.toNat x2) fun G1 =>
  some (1, G1)
theorem s_Hall_marry_L29 {X : XT} {r : Int × GS} : ∀ {G : GS} {x1 : Int} {x2 : Int}, wr x1 = x1 → wr x2 = x2 → f_Hall_marry_L29 G x1 x2 = some r → J X true 8 0 0 M_Hall_marry (Rz r.1 r.2) NC 0 0 29 [(0, rf X 0), (1, vi x1), (2, vi x2)] [] G := by
  intro G x1 x2 hx1 hx2 h
  unfold f_Hall_marry_L29 at h
  refine j_aloadn (k := 0) (D_Hall_marry 15 rfl) rfl rfl ?_
  refine j_getR rfl fa_Hall_12 kd_0 lc_0 (by decide) rfl fx_0_0 (by decide) (D_Hall_marry 16 rfl) ?_
  refine j_getR rfl fa_Hall_134 kd_1 lc_1 (by decide) rfl fx_1_6 (by decide) (D_Hall_marry 17 rfl) ?_
  refine j_iloadn (k := 1) (D_Hall_marry 18 rfl) rfl rfl ?_
  refine j_iloadn (k := 2) (D_Hall_marry 19 rfl) rfl rfl ?_
  have g1 := gd_c h
  replace h := gd_s h
  refine j_iast (NI := 32) (D_Hall_marry 20 rfl) kd_8 lc_8 (hx1) rfl g1.1 g1.2 ?_
  refine j_gen (fun G1 e1 => ?_)
  replace h := wG_at h e1
  refine j_iconst (v := 1) (D_Hall_marry 21 rfl) rfl ?_
  exact j_zret (D_Hall_marry 22 rfl) rfl (wr_lit rfl) (nz_01 (by decide)) rfl rfl (leafZ h (wr_n (wr_lit rfl)) (by decide))
def f_Hall_marry (G : GS) (a1 : Int) (a2 : Int) : Option (Int × GS) :=
  (f_People_isMan G a1).bind fun q1 =>
  if q1 = 0 then
    some (0, G)
  else
    if a2 = (-1) then
      f_Hall_marry_L29 G a1 a2
    else
      (f_People_isWoman G a2).bind fun q2 =>
      if q2 = 0 then
        some (0, G)
      else
        f_Hall_marry_L29 G a1 a2
theorem c_Hall_marry {X : XT} {G : GS} {a1 : Int} {a2 : Int} {r : Int × GS} (ha1 : wr a1 = a1) (ha2 : wr a2 = a2) (h : f_Hall_marry G a1 a2 = some r) : Call X true 8 0 0 M_Hall_marry [rf X 0, vi a1, vi a2] NC G (Rz r.1 r.2) := by
  refine Call_of_J cw_Hall_marry (by decide +kernel) (Nat.le_of_ble_eq_true rfl) ?_
  unfold f_Hall_marry at h
  show J X true 8 0 0 M_Hall_marry (Rz r.1 r.2) NC 0 0 0 [(0, rf X 0), (1, vi a1), (2, vi a2)] [] G
  refine j_aloadn (k := 0) (D_Hall_marry 0 rfl) rfl rfl ?_
  refine j_getR rfl fa_Hall_12 kd_0 lc_0 (by decide) rfl fx_0_0 (by decide) (D_Hall_marry 1 rfl) ?_
  refine j_iloadn (k := 1) (D_Hall_marry 2 rfl) rfl rfl ?_
  obtain ⟨q1, e1, h⟩ := Option.bind_eq_some_iff.mp h
  refine j_cVz (c_People_isMan (ha1) e1) rfl lk_Hall_107 mok_People_isMan kd_1 lc_1 rfl (by decide) rfl rfl (Nat.le_of_ble_eq_true rfl) (D_Hall_marry 3 rfl) (fun w1 bw1 => ?_)
  refine j_if_eq (tgt := 27) (D_Hall_marry 4 rfl) rfl (w1) (fun c1 => ?_) (fun c1 => ?_)
  · replace h := ite_t h c1
    refine j_iconst (v := 0) (D_Hall_marry 13 rfl) rfl ?_
    exact j_zret (D_Hall_marry 14 rfl) rfl (wr_lit rfl) (nz_01 (by decide)) rfl rfl (leafZ h (wr_n (wr_lit rfl)) (by decide))
  · replace h := ite_f h c1
    refine j_iloadn (k := 2) (D_Hall_marry 5 rfl) rfl rfl ?_
    refine j_iconst (v := (-1)) (D_Hall_marry 6 rfl) rfl ?_
    refine j_ic_eq (tgt := 29) (D_Hall_marry 7 rfl) rfl (ha2) (wr_lit rfl) (fun c2 => ?_) (fun c2 => ?_)
    · replace h := ite_t h c2
      refine j_loc [0, 1, 2] rfl ?_
      exact s_Hall_marry_L29 (ha1) (ha2) h
    · replace h := ite_f h c2
      refine j_aloadn (k := 0) (D_Hall_marry 8 rfl) rfl rfl ?_
      refine j_getR rfl fa_Hall_12 kd_0 lc_0 (by decide) rfl fx_0_0 (by decide) (D_Hall_marry 9 rfl) ?_
      refine j_iloadn (k := 2) (D_Hall_marry 10 rfl) rfl rfl ?_
      obtain ⟨q2, e2, h⟩ := Option.bind_eq_some_iff.mp h
      refine j_cVz (c_People_isWoman (ha2) e2) rfl lk_Hall_111 mok_People_isWoman kd_1 lc_1 rfl (by decide) rfl rfl (Nat.le_of_ble_eq_true rfl) (D_Hall_marry 11 rfl) (fun w2 bw2 => ?_)
      refine j_if_ne (tgt := 29) (D_Hall_marry 12 rfl) rfl (w2) (fun c3 => ?_) (fun c3 => ?_)
      · replace h := ite_f h c3
        refine j_loc [0, 1, 2] rfl ?_
        exact s_Hall_marry_L29 (ha1) (ha2) h
      · replace h := ite_t h c3
        refine j_iconst (v := 0) (D_Hall_marry 13 rfl) rfl ?_
        exact j_zret (D_Hall_marry 14 rfl) rfl (wr_lit rfl) (nz_01 (by decide)) rfl rfl (leafZ h (wr_n (wr_lit rfl)) (by decide))
abbrev M_Model_marry : MI := (⟨"InquestHallModel", "marry", "(II)Z"⟩, prog_14_method_10_code, 3, (some .boolean))
theorem cw_Model_marry : Cond.code M_Model_marry.1 M_Model_marry.2.1 M_Model_marry.2.2.1 M_Model_marry.2.2.2 ∈ TS := mTS (List.mem_of_getElem? (i := 1597) (by decide +kernel)) (by decide +kernel)
def tb_Model_marry : List (Nat × Instr × Nat) := [(0, .aload_n 0, 1), (1, .iload_n 1, 1), (2, .invokevirtual 198, 3), (5, .ifCond .eq 21, 3), (8, .aload_n 0, 1), (9, .getfield 7, 3), (12, .iload_n 1, 1), (13, .iaload, 1), (14, .ifCond .ne 12, 3), (17, .aload_n 0, 1), (18, .iload_n 2, 1), (19, .iconst 1, 1), (20, .invokevirtual 205, 3), (23, .ifCond .ne 5, 3), (26, .iconst 0, 1), (27, .ireturn, 1), (28, .aload_n 0, 1), (29, .getfield 28, 3), (32, .iload_n 1, 1), (33, .iload_n 2, 1), (34, .iastore, 1), (35, .iconst 1, 1), (36, .ireturn, 1)]
theorem D_Model_marry (i : Nat) {pc len : Nat} {ins : Instr} (hi : tb_Model_marry[i]? = some (pc, ins, len)) : decode M_Model_marry.2.1 pc = .ok (ins, len) := dec_of (by decide +kernel) i hi
def f_Model_marry (G : GS) (a1 : Int) (a2 : Int) : Option (Int × GS) :=
  (f_Model_isPerson G a1).bind fun q1 =>
  if q1 = 0 then
    some (0, G)
  else
    gd (0 ≤ a1 ∧ a1 < 32) <|
    if gi G 82 a1.toNat = 0 then
      (f_Model_isOf G a2 1).bind fun q2 =>
      if q2 = 0 then
        some (0, G)
      else
        gd (0 ≤ a1 ∧ a1 < 32) <|
        wG (si G 88 a1.toNat a2) fun G1 =>
        some (1, G1)
    else
      some (0, G)
theorem c_Model_marry {X : XT} {G : GS} {a1 : Int} {a2 : Int} {r : Int × GS} (ha1 : wr a1 = a1) (ha2 : wr a2 = a2) (h : f_Model_marry G a1 a2 = some r) : Call X true 9 0 0 M_Model_marry [rf X 81, vi a1, vi a2] NC G (Rz r.1 r.2) := by
  refine Call_of_J cw_Model_marry (by decide +kernel) (Nat.le_of_ble_eq_true rfl) ?_
  unfold f_Model_marry at h
  show J X true 9 0 0 M_Model_marry (Rz r.1 r.2) NC 0 0 0 [(0, rf X 81), (1, vi a1), (2, vi a2)] [] G
  refine j_aloadn (k := 0) (D_Model_marry 0 rfl) rfl rfl ?_
  refine j_iloadn (k := 1) (D_Model_marry 1 rfl) rfl rfl ?_
  obtain ⟨q1, e1, h⟩ := Option.bind_eq_some_iff.mp h
  refine j_cVz (c_Model_isPerson (ha1) e1) rfl lk_Model_198 mok_Model_isPerson kd_81 lc_81 rfl (by decide) rfl rfl (Nat.le_of_ble_eq_true rfl) (D_Model_marry 2 rfl) (fun w1 bw1 => ?_)
  refine j_if_eq (tgt := 26) (D_Model_marry 3 rfl) rfl (w1) (fun c1 => ?_) (fun c1 => ?_)
  · replace h := ite_t h c1
    refine j_iconst (v := 0) (D_Model_marry 14 rfl) rfl ?_
    exact j_zret (D_Model_marry 15 rfl) rfl (wr_lit rfl) (nz_01 (by decide)) rfl rfl (leafZ h (wr_n (wr_lit rfl)) (by decide))
  · replace h := ite_f h c1
    refine j_aloadn (k := 0) (D_Model_marry 4 rfl) rfl rfl ?_
    refine j_getR rfl fa_Model_7 kd_81 lc_81 (by decide) rfl fx_81_2 (by decide) (D_Model_marry 5 rfl) ?_
    refine j_iloadn (k := 1) (D_Model_marry 6 rfl) rfl rfl ?_
    have g1 := gd_c h
    replace h := gd_s h
    refine j_iald (NI := 32) (D_Model_marry 7 rfl) kd_82 lc_82 (ha1) rfl g1.1 g1.2 ?_
    refine j_if_ne (tgt := 26) (D_Model_marry 8 rfl) rfl (wr_gi _ _ _) (fun c2 => ?_) (fun c2 => ?_)
    · replace h := ite_f h c2
      refine j_iconst (v := 0) (D_Model_marry 14 rfl) rfl ?_
      exact j_zret (D_Model_marry 15 rfl) rfl (wr_lit rfl) (nz_01 (by decide)) rfl rfl (leafZ h (wr_n (wr_lit rfl)) (by decide))
    · replace h := ite_t h c2
      refine j_aloadn (k := 0) (D_Model_marry 9 rfl) rfl rfl ?_
      refine j_iloadn (k := 2) (D_Model_marry 10 rfl) rfl rfl ?_
      refine j_iconst (v := 1) (D_Model_marry 11 rfl) rfl ?_
      obtain ⟨q2, e2, h⟩ := Option.bind_eq_some_iff.mp h
      refine j_cVz (c_Model_isOf (ha2) (wr_lit rfl) e2) rfl lk_Model_205 mok_Model_isOf kd_81 lc_81 rfl (by decide) rfl rfl (Nat.le_of_ble_eq_true rfl) (D_Model_marry 12 rfl) (fun w2 bw2 => ?_)
      refine j_if_ne (tgt := 28) (D_Model_marry 13 rfl) rfl (w2) (fun c3 => ?_) (fun c3 => ?_)
      · replace h := ite_f h c3
        refine j_aloadn (k := 0) (D_Model_marry 16 rfl) rfl rfl ?_
        refine j_getR rfl fa_Model_28 kd_81 lc_81 (by decide) rfl fx_81_8 (by decide) (D_Model_marry 17 rfl) ?_
        refine j_iloadn (k := 1) (D_Model_marry 18 rfl) rfl rfl ?_
        refine j_iloadn (k := 2) (D_Model_marry 19 rfl) rfl rfl ?_
        have g2 := gd_c h
        replace h := gd_s h
        refine j_iast (NI := 32) (D_Model_marry 20 rfl) kd_88 lc_88 (ha1) rfl g2.1 g2.2 ?_
        refine j_gen (fun G1 e3 => ?_)
        replace h := wG_at h e3
        refine j_iconst (v := 1) (D_Model_marry 21 rfl) rfl ?_
        exact j_zret (D_Model_marry 22 rfl) rfl (wr_lit rfl) (nz_01 (by decide)) rfl rfl (leafZ h (wr_n (wr_lit rfl)) (by decide))
      · replace h := ite_t h c3
        refine j_iconst (v := 0) (D_Model_marry 14 rfl) rfl ?_
        exact j_zret (D_Model_marry 15 rfl) rfl (wr_lit rfl) (nz_01 (by decide)) rfl rfl (leafZ h (wr_n (wr_lit rfl)) (by decide))
abbrev M_People_told : MI := (⟨"InquestHall$People", "told", "(II)I"⟩, prog_8_method_9_code, 3, (some .int))
theorem cw_People_told : Cond.code M_People_told.1 M_People_told.2.1 M_People_told.2.2.1 M_People_told.2.2.2 ∈ TS := mTS (List.mem_of_getElem? (i := 686) (by decide +kernel)) (by decide +kernel)
def tb_People_told : List (Nat × Instr × Nat) := [(0, .iload_n 2, 1), (1, .tableswitch 92 0 6 #[43, 50, 57, 64, 71, 78, 85], 43), (44, .aload_n 0, 1), (45, .getfield 11, 3), (48, .iload_n 1, 1), (49, .iaload, 1), (50, .ireturn, 1), (51, .aload_n 0, 1), (52, .getfield 15, 3), (55, .iload_n 1, 1), (56, .iaload, 1), (57, .ireturn, 1), (58, .aload_n 0, 1), (59, .getfield 18, 3), (62, .iload_n 1, 1), (63, .iaload, 1), (64, .ireturn, 1), (65, .aload_n 0, 1), (66, .getfield 21, 3), (69, .iload_n 1, 1), (70, .iaload, 1), (71, .ireturn, 1), (72, .aload_n 0, 1), (73, .getfield 24, 3), (76, .iload_n 1, 1), (77, .iaload, 1), (78, .ireturn, 1), (79, .aload_n 0, 1), (80, .getfield 27, 3), (83, .iload_n 1, 1), (84, .iaload, 1), (85, .ireturn, 1), (86, .aload_n 0, 1), (87, .getfield 30, 3), (90, .iload_n 1, 1), (91, .iaload, 1), (92, .ireturn, 1), (93, .iconst (-1), 1), (94, .ireturn, 1)]
theorem D_People_told (i : Nat) {pc len : Nat} {ins : Instr} (hi : tb_People_told[i]? = some (pc, ins, len)) : decode M_People_told.2.1 pc = .ok (ins, len) := dec_of (by decide +kernel) i hi
def f_People_told (G : GS) (a1 : Int) (a2 : Int) : Option (Int) :=
  if a2 = 0 then
    gd (0 ≤ a1 ∧ a1 < 32) <|
    some (gi G 2 a1.toNat)
  else
    if a2 = 1 then
      gd (0 ≤ a1 ∧ a1 < 32) <|
      some (gi G 3 a1.toNat)
    else
      if a2 = 2 then
        gd (0 ≤ a1 ∧ a1 < 32) <|
        some (gi G 4 a1.toNat)
      else
        if a2 = 3 then
          gd (0 ≤ a1 ∧ a1 < 32) <|
          some (gi G 5 a1.toNat)
        else
          if a2 = 4 then
            gd (0 ≤ a1 ∧ a1 < 32) <|
            some (gi G 6 a1.toNat)
          else
            if a2 = 5 then
              gd (0 ≤ a1 ∧ a1 < 32) <|
              some (gi G 7 a1.toNat)
            else
              if a2 = 6 then
                gd (0 ≤ a1 ∧ a1 < 32) <|
                some (gi G 8 a1.toNat)
              else
                some (-1)
theorem c_People_told {X : XT} {G : GS} {a1 : Int} {a2 : Int} {r : Int} (ha1 : wr a1 = a1) (ha2 : wr a2 = a2) (h : f_People_told G a1 a2 = some r) : Call X true 6 0 0 M_People_told [rf X 1, vi a1, vi a2] NC G (Ri r G) := by
  refine Call_of_J cw_People_told (by decide +kernel) (Nat.le_of_ble_eq_true rfl) ?_
  unfold f_People_told at h
  show J X true 6 0 0 M_People_told (Ri r G) NC 0 0 0 [(0, rf X 1), (1, vi a1), (2, vi a2)] [] G
  refine j_iloadn (k := 2) (D_People_told 0 rfl) rfl rfl ?_
  by_cases c1 : a2 = 0
  · replace h := ite_t h c1
    refine j_tIn (tgt := 44) (D_People_told 1 rfl) (ha2) c1 (by decide) (by decide) rfl rfl ?_
    refine j_aloadn (k := 0) (D_People_told 2 rfl) rfl rfl ?_
    refine j_getR rfl fa_People_11 kd_1 lc_1 (by decide) rfl fx_1_0 (by decide) (D_People_told 3 rfl) ?_
    refine j_iloadn (k := 1) (D_People_told 4 rfl) rfl rfl ?_
    have g1 := gd_c h
    replace h := gd_s h
    refine j_iald (NI := 32) (D_People_told 5 rfl) kd_2 lc_2 (ha1) rfl g1.1 g1.2 ?_
    exact j_iret (D_People_told 6 rfl) rfl (wr_gi _ _ _) rfl rfl (leafIo h (wr_n (wr_gi _ _ _)))
  · replace h := ite_f h c1
    by_cases c2 : a2 = 1
    · replace h := ite_t h c2
      refine j_tIn (tgt := 51) (D_People_told 1 rfl) (ha2) c2 (by decide) (by decide) rfl rfl ?_
      refine j_aloadn (k := 0) (D_People_told 7 rfl) rfl rfl ?_
      refine j_getR rfl fa_People_15 kd_1 lc_1 (by decide) rfl fx_1_1 (by decide) (D_People_told 8 rfl) ?_
      refine j_iloadn (k := 1) (D_People_told 9 rfl) rfl rfl ?_
      have g2 := gd_c h
      replace h := gd_s h
      refine j_iald (NI := 32) (D_People_told 10 rfl) kd_3 lc_3 (ha1) rfl g2.1 g2.2 ?_
      exact j_iret (D_People_told 11 rfl) rfl (wr_gi _ _ _) rfl rfl (leafIo h (wr_n (wr_gi _ _ _)))
    · replace h := ite_f h c2
      by_cases c3 : a2 = 2
      · replace h := ite_t h c3
        refine j_tIn (tgt := 58) (D_People_told 1 rfl) (ha2) c3 (by decide) (by decide) rfl rfl ?_
        refine j_aloadn (k := 0) (D_People_told 12 rfl) rfl rfl ?_
        refine j_getR rfl fa_People_18 kd_1 lc_1 (by decide) rfl fx_1_2 (by decide) (D_People_told 13 rfl) ?_
        refine j_iloadn (k := 1) (D_People_told 14 rfl) rfl rfl ?_
        have g3 := gd_c h
        replace h := gd_s h
        refine j_iald (NI := 32) (D_People_told 15 rfl) kd_4 lc_4 (ha1) rfl g3.1 g3.2 ?_
        exact j_iret (D_People_told 16 rfl) rfl (wr_gi _ _ _) rfl rfl (leafIo h (wr_n (wr_gi _ _ _)))
      · replace h := ite_f h c3
        by_cases c4 : a2 = 3
        · replace h := ite_t h c4
          refine j_tIn (tgt := 65) (D_People_told 1 rfl) (ha2) c4 (by decide) (by decide) rfl rfl ?_
          refine j_aloadn (k := 0) (D_People_told 17 rfl) rfl rfl ?_
          refine j_getR rfl fa_People_21 kd_1 lc_1 (by decide) rfl fx_1_3 (by decide) (D_People_told 18 rfl) ?_
          refine j_iloadn (k := 1) (D_People_told 19 rfl) rfl rfl ?_
          have g4 := gd_c h
          replace h := gd_s h
          refine j_iald (NI := 32) (D_People_told 20 rfl) kd_5 lc_5 (ha1) rfl g4.1 g4.2 ?_
          exact j_iret (D_People_told 21 rfl) rfl (wr_gi _ _ _) rfl rfl (leafIo h (wr_n (wr_gi _ _ _)))
        · replace h := ite_f h c4
          by_cases c5 : a2 = 4
          · replace h := ite_t h c5
            refine j_tIn (tgt := 72) (D_People_told 1 rfl) (ha2) c5 (by decide) (by decide) rfl rfl ?_
            refine j_aloadn (k := 0) (D_People_told 22 rfl) rfl rfl ?_
            refine j_getR rfl fa_People_24 kd_1 lc_1 (by decide) rfl fx_1_4 (by decide) (D_People_told 23 rfl) ?_
            refine j_iloadn (k := 1) (D_People_told 24 rfl) rfl rfl ?_
            have g5 := gd_c h
            replace h := gd_s h
            refine j_iald (NI := 32) (D_People_told 25 rfl) kd_6 lc_6 (ha1) rfl g5.1 g5.2 ?_
            exact j_iret (D_People_told 26 rfl) rfl (wr_gi _ _ _) rfl rfl (leafIo h (wr_n (wr_gi _ _ _)))
          · replace h := ite_f h c5
            by_cases c6 : a2 = 5
            · replace h := ite_t h c6
              refine j_tIn (tgt := 79) (D_People_told 1 rfl) (ha2) c6 (by decide) (by decide) rfl rfl ?_
              refine j_aloadn (k := 0) (D_People_told 27 rfl) rfl rfl ?_
              refine j_getR rfl fa_People_27 kd_1 lc_1 (by decide) rfl fx_1_5 (by decide) (D_People_told 28 rfl) ?_
              refine j_iloadn (k := 1) (D_People_told 29 rfl) rfl rfl ?_
              have g6 := gd_c h
              replace h := gd_s h
              refine j_iald (NI := 32) (D_People_told 30 rfl) kd_7 lc_7 (ha1) rfl g6.1 g6.2 ?_
              exact j_iret (D_People_told 31 rfl) rfl (wr_gi _ _ _) rfl rfl (leafIo h (wr_n (wr_gi _ _ _)))
            · replace h := ite_f h c6
              by_cases c7 : a2 = 6
              · replace h := ite_t h c7
                refine j_tIn (tgt := 86) (D_People_told 1 rfl) (ha2) c7 (by decide) (by decide) rfl rfl ?_
                refine j_aloadn (k := 0) (D_People_told 32 rfl) rfl rfl ?_
                refine j_getR rfl fa_People_30 kd_1 lc_1 (by decide) rfl fx_1_6 (by decide) (D_People_told 33 rfl) ?_
                refine j_iloadn (k := 1) (D_People_told 34 rfl) rfl rfl ?_
                have g7 := gd_c h
                replace h := gd_s h
                refine j_iald (NI := 32) (D_People_told 35 rfl) kd_8 lc_8 (ha1) rfl g7.1 g7.2 ?_
                exact j_iret (D_People_told 36 rfl) rfl (wr_gi _ _ _) rfl rfl (leafIo h (wr_n (wr_gi _ _ _)))
              · replace h := ite_f h c7
                refine j_tOut (tgt := 93) (D_People_told 1 rfl) (ha2) (by omega) rfl ?_
                refine j_iconst (v := (-1)) (D_People_told 37 rfl) rfl ?_
                exact j_iret (D_People_told 38 rfl) rfl (wr_lit rfl) rfl rfl (leafIo h (wr_n (wr_lit rfl)))
abbrev M_Hall_of : MI := (⟨"InquestHall", "of", "(II)I"⟩, prog_1_method_6_code, 3, (some .int))
theorem cw_Hall_of : Cond.code M_Hall_of.1 M_Hall_of.2.1 M_Hall_of.2.2.1 M_Hall_of.2.2.2 ∈ TS := mTS (List.mem_of_getElem? (i := 682) (by decide +kernel)) (by decide +kernel)
theorem lk_Hall_140 : Cond.methodLink "InquestHall" 140 M_People_told.1 ∈ TS := mTS (List.mem_of_getElem? (i := 683) (by decide +kernel)) (by decide +kernel)
theorem mok_People_told : MOK M_People_told 2 := ⟨mTS (List.mem_of_getElem? (i := 684) (by decide +kernel)) (by decide +kernel), mTS (List.mem_of_getElem? (i := 685) (by decide +kernel)) (by decide +kernel), mTS (List.mem_of_getElem? (i := 123) (by decide +kernel)) (by decide +kernel), cw_People_told, ⟨by decide, by decide, by decide +kernel⟩, by decide +kernel, by decide⟩
theorem fa_Hall_42 : FA "InquestHall" 42 0 4 true (.object "InquestHall$Remembered") := ⟨_, _, _, _, ok_Hall, by decide, mTS (List.mem_of_getElem? (i := 596) (by decide +kernel)) (by decide +kernel), rfl, rfl⟩
theorem fx_0_4 {G : GS} (w : WF true NC G) : G.2.2 0 4 = 23 := w.2 rfl (0, 4, 23) (by decide)
theorem fa_Hall_137 : FA "InquestHall" 137 5 1 true (.array .int) := ⟨_, _, _, _, ok_Remembered, by decide, mTS (List.mem_of_getElem? (i := 376) (by decide +kernel)) (by decide +kernel), rfl, rfl⟩
theorem kd_23 : kd 23 = (5 + 5, 9) := rfl
theorem lc_23 : 23 < NC := by decide
theorem fx_23_1 {G : GS} (w : WF true NC G) : G.2.2 23 1 = 25 := w.2 rfl (23, 1, 25) (by decide)
theorem kd_25 : kd 25 = (0, 32) := rfl
theorem lc_25 : 25 < NC := by decide
def tb_Hall_of : List (Nat × Instr × Nat) := [(0, .aload_n 0, 1), (1, .getfield 12, 3), (4, .iload_n 1, 1), (5, .invokevirtual 122, 3), (8, .ifCond .ne 5, 3), (11, .iconst (-1), 1), (12, .ireturn, 1), (13, .iload_n 2, 1), (14, .bipush 7, 2), (16, .if_icmp .ne 15, 3), (19, .aload_n 0, 1), (20, .getfield 42, 3), (23, .getfield 137, 3), (26, .iload_n 1, 1), (27, .iaload, 1), (28, .goto 12, 3), (31, .aload_n 0, 1), (32, .getfield 12, 3), (35, .iload_n 1, 1), (36, .iload_n 2, 1), (37, .invokevirtual 140, 3), (40, .ireturn, 1)]
theorem D_Hall_of (i : Nat) {pc len : Nat} {ins : Instr} (hi : tb_Hall_of[i]? = some (pc, ins, len)) : decode M_Hall_of.2.1 pc = .ok (ins, len) := dec_of (by decide +kernel) i hi
def f_Hall_of (G : GS) (a1 : Int) (a2 : Int) : Option (Int) :=
  (f_People_has G a1).bind fun q1 =>
  if q1 = 0 then
    some (-1)
  else
    if a2 = 7 then
      gd (0 ≤ a1 ∧ a1 < 32) <|
      some (gi G 25 a1.toNat)
    else
      (f_People_told G a1 a2).bind fun q2 =>
      some q2
theorem c_Hall_of {X : XT} {G : GS} {a1 : Int} {a2 : Int} {r : Int} (ha1 : wr a1 = a1) (ha2 : wr a2 = a2) (h : f_Hall_of G a1 a2 = some r) : Call X true 7 0 0 M_Hall_of [rf X 0, vi a1, vi a2] NC G (Ri r G) := by
  refine Call_of_J cw_Hall_of (by decide +kernel) (Nat.le_of_ble_eq_true rfl) ?_
  unfold f_Hall_of at h
  show J X true 7 0 0 M_Hall_of (Ri r G) NC 0 0 0 [(0, rf X 0), (1, vi a1), (2, vi a2)] [] G
  refine j_aloadn (k := 0) (D_Hall_of 0 rfl) rfl rfl ?_
  refine j_getR rfl fa_Hall_12 kd_0 lc_0 (by decide) rfl fx_0_0 (by decide) (D_Hall_of 1 rfl) ?_
  refine j_iloadn (k := 1) (D_Hall_of 2 rfl) rfl rfl ?_
  obtain ⟨q1, e1, h⟩ := Option.bind_eq_some_iff.mp h
  refine j_cVz (c_People_has (ha1) e1) rfl lk_Hall_122 mok_People_has kd_1 lc_1 rfl (by decide) rfl rfl (Nat.le_of_ble_eq_true rfl) (D_Hall_of 3 rfl) (fun w1 bw1 => ?_)
  refine j_if_ne (tgt := 13) (D_Hall_of 4 rfl) rfl (w1) (fun c1 => ?_) (fun c1 => ?_)
  · replace h := ite_f h c1
    refine j_iloadn (k := 2) (D_Hall_of 7 rfl) rfl rfl ?_
    refine j_bipush (v := 7) (D_Hall_of 8 rfl) rfl ?_
    refine j_ic_ne (tgt := 31) (D_Hall_of 9 rfl) rfl (ha2) (wr_lit rfl) (fun c2 => ?_) (fun c2 => ?_)
    · replace h := ite_f h c2
      refine j_aloadn (k := 0) (D_Hall_of 16 rfl) rfl rfl ?_
      refine j_getR rfl fa_Hall_12 kd_0 lc_0 (by decide) rfl fx_0_0 (by decide) (D_Hall_of 17 rfl) ?_
      refine j_iloadn (k := 1) (D_Hall_of 18 rfl) rfl rfl ?_
      refine j_iloadn (k := 2) (D_Hall_of 19 rfl) rfl rfl ?_
      obtain ⟨q2, e2, h⟩ := Option.bind_eq_some_iff.mp h
      refine j_cVi (c_People_told (ha1) (ha2) e2) rfl lk_Hall_140 mok_People_told kd_1 lc_1 rfl (by decide) rfl rfl (Nat.le_of_ble_eq_true rfl) (D_Hall_of 20 rfl) (fun w2 => ?_)
      exact j_iret (D_Hall_of 21 rfl) rfl (w2) rfl rfl (leafIo h (wr_n (w2)))
    · replace h := ite_t h c2
      refine j_aloadn (k := 0) (D_Hall_of 10 rfl) rfl rfl ?_
      refine j_getR rfl fa_Hall_42 kd_0 lc_0 (by decide) rfl fx_0_4 (by decide) (D_Hall_of 11 rfl) ?_
      refine j_getR rfl fa_Hall_137 kd_23 lc_23 (by decide) rfl fx_23_1 (by decide) (D_Hall_of 12 rfl) ?_
      refine j_iloadn (k := 1) (D_Hall_of 13 rfl) rfl rfl ?_
      have g1 := gd_c h
      replace h := gd_s h
      refine j_iald (NI := 32) (D_Hall_of 14 rfl) kd_25 lc_25 (ha1) rfl g1.1 g1.2 ?_
      refine j_goto (tgt := 40) (D_Hall_of 15 rfl) rfl ?_
      exact j_iret (D_Hall_of 21 rfl) rfl (wr_gi _ _ _) rfl rfl (leafIo h (wr_n (wr_gi _ _ _)))
  · replace h := ite_t h c1
    refine j_iconst (v := (-1)) (D_Hall_of 5 rfl) rfl ?_
    exact j_iret (D_Hall_of 6 rfl) rfl (wr_lit rfl) rfl rfl (leafIo h (wr_n (wr_lit rfl)))
abbrev M_Model_of : MI := (⟨"InquestHallModel", "of", "(II)I"⟩, prog_14_method_11_code, 3, (some .int))
theorem cw_Model_of : Cond.code M_Model_of.1 M_Model_of.2.1 M_Model_of.2.2.1 M_Model_of.2.2.2 ∈ TS := mTS (List.mem_of_getElem? (i := 1601) (by decide +kernel)) (by decide +kernel)
theorem fa_Model_31 : FA "InquestHallModel" 31 12 9 true (.array .int) := ⟨_, _, _, _, ok_Model, by decide, mTS (List.mem_of_getElem? (i := 1310) (by decide +kernel)) (by decide +kernel), rfl, rfl⟩
theorem fx_81_9 {G : GS} (w : WF true NC G) : G.2.2 81 9 = 89 := w.2 rfl (81, 9, 89) (by decide)
theorem kd_89 : kd 89 = (0, 32) := rfl
theorem lc_89 : 89 < NC := by decide
def tb_Model_of : List (Nat × Instr × Nat) := [(0, .aload_n 0, 1), (1, .iload_n 1, 1), (2, .invokevirtual 198, 3), (5, .ifCond .ne 5, 3), (8, .iconst (-1), 1), (9, .ireturn, 1), (10, .iload_n 2, 1), (11, .tableswitch 101 0 7 #[45, 52, 59, 66, 73, 80, 87, 94], 45), (56, .aload_n 0, 1), (57, .getfield 7, 3), (60, .iload_n 1, 1), (61, .iaload, 1), (62, .ireturn, 1), (63, .aload_n 0, 1), (64, .getfield 13, 3), (67, .iload_n 1, 1), (68, .iaload, 1), (69, .ireturn, 1), (70, .aload_n 0, 1), (71, .getfield 16, 3), (74, .iload_n 1, 1), (75, .iaload, 1), (76, .ireturn, 1), (77, .aload_n 0, 1), (78, .getfield 19, 3), (81, .iload_n 1, 1), (82, .iaload, 1), (83, .ireturn, 1), (84, .aload_n 0, 1), (85, .getfield 22, 3), (88, .iload_n 1, 1), (89, .iaload, 1), (90, .ireturn, 1), (91, .aload_n 0, 1), (92, .getfield 25, 3), (95, .iload_n 1, 1), (96, .iaload, 1), (97, .ireturn, 1), (98, .aload_n 0, 1), (99, .getfield 28, 3), (102, .iload_n 1, 1), (103, .iaload, 1), (104, .ireturn, 1), (105, .aload_n 0, 1), (106, .getfield 31, 3), (109, .iload_n 1, 1), (110, .iaload, 1), (111, .ireturn, 1), (112, .iconst (-1), 1), (113, .ireturn, 1)]
theorem D_Model_of (i : Nat) {pc len : Nat} {ins : Instr} (hi : tb_Model_of[i]? = some (pc, ins, len)) : decode M_Model_of.2.1 pc = .ok (ins, len) := dec_of (by decide +kernel) i hi
def f_Model_of (G : GS) (a1 : Int) (a2 : Int) : Option (Int) :=
  (f_Model_isPerson G a1).bind fun q1 =>
  if q1 = 0 then
    some (-1)
  else
    if a2 = 0 then
      gd (0 ≤ a1 ∧ a1 < 32) <|
      some (gi G 82 a1.toNat)
    else
      if a2 = 1 then
        gd (0 ≤ a1 ∧ a1 < 32) <|
        some (gi G 83 a1.toNat)
      else
        if a2 = 2 then
          gd (0 ≤ a1 ∧ a1 < 32) <|
          some (gi G 84 a1.toNat)
        else
          if a2 = 3 then
            gd (0 ≤ a1 ∧ a1 < 32) <|
            some (gi G 85 a1.toNat)
          else
            if a2 = 4 then
              gd (0 ≤ a1 ∧ a1 < 32) <|
              some (gi G 86 a1.toNat)
            else
              if a2 = 5 then
                gd (0 ≤ a1 ∧ a1 < 32) <|
                some (gi G 87 a1.toNat)
              else
                if a2 = 6 then
                  gd (0 ≤ a1 ∧ a1 < 32) <|
                  some (gi G 88 a1.toNat)
                else
                  if a2 = 7 then
                    gd (0 ≤ a1 ∧ a1 < 32) <|
                    some (gi G 89 a1.toNat)
                  else
                    some (-1)
theorem c_Model_of {X : XT} {G : GS} {a1 : Int} {a2 : Int} {r : Int} (ha1 : wr a1 = a1) (ha2 : wr a2 = a2) (h : f_Model_of G a1 a2 = some r) : Call X true 8 0 0 M_Model_of [rf X 81, vi a1, vi a2] NC G (Ri r G) := by
  refine Call_of_J cw_Model_of (by decide +kernel) (Nat.le_of_ble_eq_true rfl) ?_
  unfold f_Model_of at h
  show J X true 8 0 0 M_Model_of (Ri r G) NC 0 0 0 [(0, rf X 81), (1, vi a1), (2, vi a2)] [] G
  refine j_aloadn (k := 0) (D_Model_of 0 rfl) rfl rfl ?_
  refine j_iloadn (k := 1) (D_Model_of 1 rfl) rfl rfl ?_
  obtain ⟨q1, e1, h⟩ := Option.bind_eq_some_iff.mp h
  refine j_cVz (c_Model_isPerson (ha1) e1) rfl lk_Model_198 mok_Model_isPerson kd_81 lc_81 rfl (by decide) rfl rfl (Nat.le_of_ble_eq_true rfl) (D_Model_of 2 rfl) (fun w1 bw1 => ?_)
  refine j_if_ne (tgt := 10) (D_Model_of 3 rfl) rfl (w1) (fun c1 => ?_) (fun c1 => ?_)
  · replace h := ite_f h c1
    refine j_iloadn (k := 2) (D_Model_of 6 rfl) rfl rfl ?_
    by_cases c2 : a2 = 0
    · replace h := ite_t h c2
      refine j_tIn (tgt := 56) (D_Model_of 7 rfl) (ha2) c2 (by decide) (by decide) rfl rfl ?_
      refine j_aloadn (k := 0) (D_Model_of 8 rfl) rfl rfl ?_
      refine j_getR rfl fa_Model_7 kd_81 lc_81 (by decide) rfl fx_81_2 (by decide) (D_Model_of 9 rfl) ?_
      refine j_iloadn (k := 1) (D_Model_of 10 rfl) rfl rfl ?_
      have g1 := gd_c h
      replace h := gd_s h
      refine j_iald (NI := 32) (D_Model_of 11 rfl) kd_82 lc_82 (ha1) rfl g1.1 g1.2 ?_
      exact j_iret (D_Model_of 12 rfl) rfl (wr_gi _ _ _) rfl rfl (leafIo h (wr_n (wr_gi _ _ _)))
    · replace h := ite_f h c2
      by_cases c3 : a2 = 1
      · replace h := ite_t h c3
        refine j_tIn (tgt := 63) (D_Model_of 7 rfl) (ha2) c3 (by decide) (by decide) rfl rfl ?_
        refine j_aloadn (k := 0) (D_Model_of 13 rfl) rfl rfl ?_
        refine j_getR rfl fa_Model_13 kd_81 lc_81 (by decide) rfl fx_81_3 (by decide) (D_Model_of 14 rfl) ?_
        refine j_iloadn (k := 1) (D_Model_of 15 rfl) rfl rfl ?_
        have g2 := gd_c h
        replace h := gd_s h
        refine j_iald (NI := 32) (D_Model_of 16 rfl) kd_83 lc_83 (ha1) rfl g2.1 g2.2 ?_
        exact j_iret (D_Model_of 17 rfl) rfl (wr_gi _ _ _) rfl rfl (leafIo h (wr_n (wr_gi _ _ _)))
      · replace h := ite_f h c3
        by_cases c4 : a2 = 2
        · replace h := ite_t h c4
          refine j_tIn (tgt := 70) (D_Model_of 7 rfl) (ha2) c4 (by decide) (by decide) rfl rfl ?_
          refine j_aloadn (k := 0) (D_Model_of 18 rfl) rfl rfl ?_
          refine j_getR rfl fa_Model_16 kd_81 lc_81 (by decide) rfl fx_81_4 (by decide) (D_Model_of 19 rfl) ?_
          refine j_iloadn (k := 1) (D_Model_of 20 rfl) rfl rfl ?_
          have g3 := gd_c h
          replace h := gd_s h
          refine j_iald (NI := 32) (D_Model_of 21 rfl) kd_84 lc_84 (ha1) rfl g3.1 g3.2 ?_
          exact j_iret (D_Model_of 22 rfl) rfl (wr_gi _ _ _) rfl rfl (leafIo h (wr_n (wr_gi _ _ _)))
        · replace h := ite_f h c4
          by_cases c5 : a2 = 3
          · replace h := ite_t h c5
            refine j_tIn (tgt := 77) (D_Model_of 7 rfl) (ha2) c5 (by decide) (by decide) rfl rfl ?_
            refine j_aloadn (k := 0) (D_Model_of 23 rfl) rfl rfl ?_
            refine j_getR rfl fa_Model_19 kd_81 lc_81 (by decide) rfl fx_81_5 (by decide) (D_Model_of 24 rfl) ?_
            refine j_iloadn (k := 1) (D_Model_of 25 rfl) rfl rfl ?_
            have g4 := gd_c h
            replace h := gd_s h
            refine j_iald (NI := 32) (D_Model_of 26 rfl) kd_85 lc_85 (ha1) rfl g4.1 g4.2 ?_
            exact j_iret (D_Model_of 27 rfl) rfl (wr_gi _ _ _) rfl rfl (leafIo h (wr_n (wr_gi _ _ _)))
          · replace h := ite_f h c5
            by_cases c6 : a2 = 4
            · replace h := ite_t h c6
              refine j_tIn (tgt := 84) (D_Model_of 7 rfl) (ha2) c6 (by decide) (by decide) rfl rfl ?_
              refine j_aloadn (k := 0) (D_Model_of 28 rfl) rfl rfl ?_
              refine j_getR rfl fa_Model_22 kd_81 lc_81 (by decide) rfl fx_81_6 (by decide) (D_Model_of 29 rfl) ?_
              refine j_iloadn (k := 1) (D_Model_of 30 rfl) rfl rfl ?_
              have g5 := gd_c h
              replace h := gd_s h
              refine j_iald (NI := 32) (D_Model_of 31 rfl) kd_86 lc_86 (ha1) rfl g5.1 g5.2 ?_
              exact j_iret (D_Model_of 32 rfl) rfl (wr_gi _ _ _) rfl rfl (leafIo h (wr_n (wr_gi _ _ _)))
            · replace h := ite_f h c6
              by_cases c7 : a2 = 5
              · replace h := ite_t h c7
                refine j_tIn (tgt := 91) (D_Model_of 7 rfl) (ha2) c7 (by decide) (by decide) rfl rfl ?_
                refine j_aloadn (k := 0) (D_Model_of 33 rfl) rfl rfl ?_
                refine j_getR rfl fa_Model_25 kd_81 lc_81 (by decide) rfl fx_81_7 (by decide) (D_Model_of 34 rfl) ?_
                refine j_iloadn (k := 1) (D_Model_of 35 rfl) rfl rfl ?_
                have g6 := gd_c h
                replace h := gd_s h
                refine j_iald (NI := 32) (D_Model_of 36 rfl) kd_87 lc_87 (ha1) rfl g6.1 g6.2 ?_
                exact j_iret (D_Model_of 37 rfl) rfl (wr_gi _ _ _) rfl rfl (leafIo h (wr_n (wr_gi _ _ _)))
              · replace h := ite_f h c7
                by_cases c8 : a2 = 6
                · replace h := ite_t h c8
                  refine j_tIn (tgt := 98) (D_Model_of 7 rfl) (ha2) c8 (by decide) (by decide) rfl rfl ?_
                  refine j_aloadn (k := 0) (D_Model_of 38 rfl) rfl rfl ?_
                  refine j_getR rfl fa_Model_28 kd_81 lc_81 (by decide) rfl fx_81_8 (by decide) (D_Model_of 39 rfl) ?_
                  refine j_iloadn (k := 1) (D_Model_of 40 rfl) rfl rfl ?_
                  have g7 := gd_c h
                  replace h := gd_s h
                  refine j_iald (NI := 32) (D_Model_of 41 rfl) kd_88 lc_88 (ha1) rfl g7.1 g7.2 ?_
                  exact j_iret (D_Model_of 42 rfl) rfl (wr_gi _ _ _) rfl rfl (leafIo h (wr_n (wr_gi _ _ _)))
                · replace h := ite_f h c8
                  by_cases c9 : a2 = 7
                  · replace h := ite_t h c9
                    refine j_tIn (tgt := 105) (D_Model_of 7 rfl) (ha2) c9 (by decide) (by decide) rfl rfl ?_
                    refine j_aloadn (k := 0) (D_Model_of 43 rfl) rfl rfl ?_
                    refine j_getR rfl fa_Model_31 kd_81 lc_81 (by decide) rfl fx_81_9 (by decide) (D_Model_of 44 rfl) ?_
                    refine j_iloadn (k := 1) (D_Model_of 45 rfl) rfl rfl ?_
                    have g8 := gd_c h
                    replace h := gd_s h
                    refine j_iald (NI := 32) (D_Model_of 46 rfl) kd_89 lc_89 (ha1) rfl g8.1 g8.2 ?_
                    exact j_iret (D_Model_of 47 rfl) rfl (wr_gi _ _ _) rfl rfl (leafIo h (wr_n (wr_gi _ _ _)))
                  · replace h := ite_f h c9
                    refine j_tOut (tgt := 112) (D_Model_of 7 rfl) (ha2) (by omega) rfl ?_
                    refine j_iconst (v := (-1)) (D_Model_of 48 rfl) rfl ?_
                    exact j_iret (D_Model_of 49 rfl) rfl (wr_lit rfl) rfl rfl (leafIo h (wr_n (wr_lit rfl)))
  · replace h := ite_t h c1
    refine j_iconst (v := (-1)) (D_Model_of 4 rfl) rfl ?_
    exact j_iret (D_Model_of 5 rfl) rfl (wr_lit rfl) rfl rfl (leafIo h (wr_n (wr_lit rfl)))
