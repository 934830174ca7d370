/-! printed by wip/whole/gen.py out of the listing of the bytecode -/
abbrev M_Descent_part : MI := (⟨"InquestHall$Descent", "part", "(II)V"⟩, prog_2_method_12_code, 4, none)
theorem cw_Descent_part : Cond.code M_Descent_part.1 M_Descent_part.2.1 M_Descent_part.2.2.1 M_Descent_part.2.2.2 ∈ TS := mTS (List.mem_of_getElem? (i := 983) (by decide +kernel)) (by decide +kernel)
theorem lk_Descent_86 : Cond.methodLink "InquestHall$Descent" 86 M_Descent_partOf.1 ∈ TS := mTS (List.mem_of_getElem? (i := 984) (by decide +kernel)) (by decide +kernel)
theorem mok_Descent_partOf : MOK M_Descent_partOf 3 := ⟨mTS (List.mem_of_getElem? (i := 986) (by decide +kernel)) (by decide +kernel), mTS (List.mem_of_getElem? (i := 30) (by decide +kernel)) (by decide +kernel), mTS (List.mem_of_getElem? (i := 134) (by decide +kernel)) (by decide +kernel), cw_Descent_partOf, ⟨by decide, by decide, by decide +kernel⟩, by decide +kernel, by decide⟩
def tb_Descent_part : List (Nat × Instr × Nat) := [(0, .aload_n 0, 1), (1, .getfield 27, 3), (4, .getfield 31, 3), (7, .iconst 1, 1), (8, .isub, 1), (9, .istore_n 3, 1), (10, .iload_n 3, 1), (11, .ifCond .lt 16, 3), (14, .aload_n 0, 1), (15, .iload_n 3, 1), (16, .iload_n 1, 1), (17, .iload_n 2, 1), (18, .invokevirtual 86, 3), (21, .iinc 3 (-1), 3), (24, .goto (-14), 3), (27, .aload_n 0, 1), (28, .bipush 32, 2), (30, .iload_n 1, 1), (31, .iload_n 2, 1), (32, .invokevirtual 86, 3), (35, .return_, 1)]
theorem D_Descent_part (i : Nat) {pc len : Nat} {ins : Instr} (hi : tb_Descent_part[i]? = some (pc, ins, len)) : decode M_Descent_part.2.1 pc = .ok (ins, len) := dec_of (by decide +kernel) i hi
def f_Descent_part_L10 : Nat → GS → Int → Int → Int → Option (GS)
  | 0, _, _, _, _ => none
  | n + 1, G, x1, x2, x3 =>
    if x3 < 0 then
      (f_Descent_partOf G 32 x1 x2).bind fun q1 =>
      some q1
    else
      (f_Descent_partOf G x3 x1 x2).bind fun q2 =>
      f_Descent_part_L10 n q2 x1 x2 (wr (x3 + (-1)))
theorem s_Descent_part_L10 {X : XT} {r : GS} : ∀ (n : Nat) {G : GS} {x1 : Int} {x2 : Int} {x3 : Int}, wr x1 = x1 → wr x2 = x2 → wr x3 = x3 → f_Descent_part_L10 n G x1 x2 x3 = some r → J X true 13 0 0 M_Descent_part (Rv r) NC 0 0 10 [(0, rf X 30), (1, vi x1), (2, vi x2), (3, vi x3)] [] G := by
  intro n
  induction n with
  | zero =>
    intro G x1 x2 x3 hx1 hx2 hx3 h
    exact none_some h
  | succ n ih =>
    intro G x1 x2 x3 hx1 hx2 hx3 h
    rw [f_Descent_part_L10] at h
    refine j_iloadn (k := 3) (D_Descent_part 6 rfl) rfl rfl ?_
    refine j_if_lt (tgt := 27) (D_Descent_part 7 rfl) rfl (hx3) (fun c1 => ?_) (fun c1 => ?_)
    · replace h := ite_t h c1
      refine j_aloadn (k := 0) (D_Descent_part 15 rfl) rfl rfl ?_
      refine j_bipush (v := 32) (D_Descent_part 16 rfl) rfl ?_
      refine j_iloadn (k := 1) (D_Descent_part 17 rfl) rfl rfl ?_
      refine j_iloadn (k := 2) (D_Descent_part 18 rfl) rfl rfl ?_
      obtain ⟨q1, e1, h⟩ := Option.bind_eq_some_iff.mp h
      refine j_cVv (c_Descent_partOf (wr_lit rfl) (hx1) (hx2) e1) rfl lk_Descent_86 mok_Descent_partOf kd_30 lc_30 rfl (by decide) rfl rfl (Nat.le_of_ble_eq_true rfl) (D_Descent_part 19 rfl) ?_
      exact j_vret (D_Descent_part 20 rfl) rfl rfl rfl (leafV h)
    · replace h := ite_f h c1
      refine j_aloadn (k := 0) (D_Descent_part 8 rfl) rfl rfl ?_
      refine j_iloadn (k := 3) (D_Descent_part 9 rfl) rfl rfl ?_
      refine j_iloadn (k := 1) (D_Descent_part 10 rfl) rfl rfl ?_
      refine j_iloadn (k := 2) (D_Descent_part 11 rfl) rfl rfl ?_
      obtain ⟨q2, e2, h⟩ := Option.bind_eq_some_iff.mp h
      refine j_cVv (c_Descent_partOf (hx3) (hx1) (hx2) e2) rfl lk_Descent_86 mok_Descent_partOf kd_30 lc_30 rfl (by decide) rfl rfl (Nat.le_of_ble_eq_true rfl) (D_Descent_part 12 rfl) ?_
      refine j_iinc (k := 3) (L' := [(3, vi (wr (x3 + (-1)))), (0, rf X 30), (1, vi x1), (2, vi x2)]) (D_Descent_part 13 rfl) rfl rfl (by decide) rfl ?_
      refine j_goto (tgt := 10) (D_Descent_part 14 rfl) rfl ?_
      refine j_loc [1, 2, 3, 0] rfl ?_
      exact ih (hx1) (hx2) (wr_wr _) h
def f_Descent_part (G : GS) (a1 : Int) (a2 : Int) : Option (GS) :=
  f_Descent_part_L10 FU G a1 a2 (wr ((gi G 1 7) - 1))
theorem c_Descent_part {X : XT} {G : GS} {a1 : Int} {a2 : Int} {r : GS} (ha1 : wr a1 = a1) (ha2 : wr a2 = a2) (h : f_Descent_part G a1 a2 = some r) : Call X true 13 0 0 M_Descent_part [rf X 30, vi a1, vi a2] NC G (Rv r) := by
  refine Call_of_J cw_Descent_part (by decide +kernel) (Nat.le_of_ble_eq_true rfl) ?_
  unfold f_Descent_part at h
  show J X true 13 0 0 M_Descent_part (Rv r) NC 0 0 0 [(0, rf X 30), (1, vi a1), (2, vi a2)] [] G
  refine j_aloadn (k := 0) (D_Descent_part 0 rfl) rfl rfl ?_
  refine j_getR rfl fa_Descent_27 kd_30 lc_30 (by decide) rfl fx_30_0 (by decide) (D_Descent_part 1 rfl) ?_
  refine j_getI rfl fa_Descent_31 kd_1 lc_1 (by decide) rfl (D_Descent_part 2 rfl) ?_
  refine j_iconst (v := 1) (D_Descent_part 3 rfl) rfl ?_
  refine j_isub (D_Descent_part 4 rfl) ?_
  refine j_istoren (L' := [(3, vi (wr ((gi G 1 7) - 1))), (0, rf X 30), (1, vi a1), (2, vi a2)]) (D_Descent_part 5 rfl) rfl (rfl) (by decide) rfl ?_
  refine j_loc [1, 2, 3, 0] rfl ?_
  exact s_Descent_part_L10 FU (ha1) (ha2) (wr_wr _) h
abbrev M_Descent_partAbove : MI := (⟨"InquestHall$Descent", "partAbove", "()J"⟩, prog_2_method_4_code, 1, (some .long))
theorem cw_Descent_partAbove : Cond.code M_Descent_partAbove.1 M_Descent_partAbove.2.1 M_Descent_partAbove.2.2.1 M_Descent_partAbove.2.2.2 ∈ TS := mTS (List.mem_of_getElem? (i := 1014) (by decide +kernel)) (by decide +kernel)
def tb_Descent_partAbove : List (Nat × Instr × Nat) := [(0, .aload_n 0, 1), (1, .getfield 20, 3), (4, .bipush 32, 2), (6, .laload, 1), (7, .lreturn, 1)]
theorem D_Descent_partAbove (i : Nat) {pc len : Nat} {ins : Instr} (hi : tb_Descent_partAbove[i]? = some (pc, ins, len)) : decode M_Descent_partAbove.2.1 pc = .ok (ins, len) := dec_of (by decide +kernel) i hi
def f_Descent_partAbove (G : GS) : Option (Int) :=
  some (gl G 33 32)
theorem c_Descent_partAbove {X : XT} {G : GS} {r : Int} (h : f_Descent_partAbove G = some r) : Call X true 6 0 0 M_Descent_partAbove [rf X 30] NC G (Rl r G) := by
  refine Call_of_J cw_Descent_partAbove (by decide +kernel) (Nat.le_of_ble_eq_true rfl) ?_
  unfold f_Descent_partAbove at h
  show J X true 6 0 0 M_Descent_partAbove (Rl r G) NC 0 0 0 [(0, rf X 30)] [] G
  refine j_aloadn (k := 0) (D_Descent_partAbove 0 rfl) rfl rfl ?_
  refine j_getR rfl fa_Descent_20 kd_30 lc_30 (by decide) rfl fx_30_6 (by decide) (D_Descent_partAbove 1 rfl) ?_
  refine j_bipush (v := 32) (D_Descent_partAbove 2 rfl) rfl ?_
  refine j_lald (NI := 33) (D_Descent_partAbove 3 rfl) kd_33 lc_33 (wr_lit rfl) rfl (by decide) (by decide) ?_
  exact j_lret (D_Descent_partAbove 4 rfl) rfl (wl_gl _ _ _) rfl rfl (leafLo h (wl_n (wl_gl _ _ _)))
abbrev M_Descent_partBelow : MI := (⟨"InquestHall$Descent", "partBelow", "()J"⟩, prog_2_method_5_code, 1, (some .long))
theorem cw_Descent_partBelow : Cond.code M_Descent_partBelow.1 M_Descent_partBelow.2.1 M_Descent_partBelow.2.2.1 M_Descent_partBelow.2.2.2 ∈ TS := mTS (List.mem_of_getElem? (i := 1018) (by decide +kernel)) (by decide +kernel)
def tb_Descent_partBelow : List (Nat × Instr × Nat) := [(0, .aload_n 0, 1), (1, .getfield 24, 3), (4, .bipush 32, 2), (6, .laload, 1), (7, .lreturn, 1)]
theorem D_Descent_partBelow (i : Nat) {pc len : Nat} {ins : Instr} (hi : tb_Descent_partBelow[i]? = some (pc, ins, len)) : decode M_Descent_partBelow.2.1 pc = .ok (ins, len) := dec_of (by decide +kernel) i hi
def f_Descent_partBelow (G : GS) : Option (Int) :=
  some (gl G 34 32)
theorem c_Descent_partBelow {X : XT} {G : GS} {r : Int} (h : f_Descent_partBelow G = some r) : Call X true 6 0 0 M_Descent_partBelow [rf X 30] NC G (Rl r G) := by
  refine Call_of_J cw_Descent_partBelow (by decide +kernel) (Nat.le_of_ble_eq_true rfl) ?_
  unfold f_Descent_partBelow at h
  show J X true 6 0 0 M_Descent_partBelow (Rl r G) NC 0 0 0 [(0, rf X 30)] [] G
  refine j_aloadn (k := 0) (D_Descent_partBelow 0 rfl) rfl rfl ?_
  refine j_getR rfl fa_Descent_24 kd_30 lc_30 (by decide) rfl fx_30_7 (by decide) (D_Descent_partBelow 1 rfl) ?_
  refine j_bipush (v := 32) (D_Descent_partBelow 2 rfl) rfl ?_
  refine j_lald (NI := 33) (D_Descent_partBelow 3 rfl) kd_34 lc_34 (wr_lit rfl) rfl (by decide) (by decide) ?_
  exact j_lret (D_Descent_partBelow 4 rfl) rfl (wl_gl _ _ _) rfl rfl (leafLo h (wl_n (wl_gl _ _ _)))
abbrev M_Hall_share : MI := (⟨"InquestHall", "share", "(IIII)J"⟩, prog_1_method_18_code, 6, (some .long))
theorem cw_Hall_share : Cond.code M_Hall_share.1 M_Hall_share.2.1 M_Hall_share.2.2.1 M_Hall_share.2.2.2 ∈ TS := mTS (List.mem_of_getElem? (i := 978) (by decide +kernel)) (by decide +kernel)
theorem ct_Hall_203 : Cond.constantLong "InquestHall" 203 (-1 : Int64) ∈ TS := mTS (List.mem_of_getElem? (i := 979) (by decide +kernel)) (by decide +kernel)
theorem lk_Hall_205 : Cond.methodLink "InquestHall" 205 M_Descent_part.1 ∈ TS := mTS (List.mem_of_getElem? (i := 980) (by decide +kernel)) (by decide +kernel)
theorem mok_Descent_part : MOK M_Descent_part 2 := ⟨mTS (List.mem_of_getElem? (i := 981) (by decide +kernel)) (by decide +kernel), mTS (List.mem_of_getElem? (i := 982) (by decide +kernel)) (by decide +kernel), mTS (List.mem_of_getElem? (i := 134) (by decide +kernel)) (by decide +kernel), cw_Descent_part, ⟨by decide, by decide, by decide +kernel⟩, by decide +kernel, by decide⟩
theorem lk_Hall_213 : Cond.methodLink "InquestHall" 213 M_Descent_partBelow.1 ∈ TS := mTS (List.mem_of_getElem? (i := 1015) (by decide +kernel)) (by decide +kernel)
theorem mok_Descent_partBelow : MOK M_Descent_partBelow 0 := ⟨mTS (List.mem_of_getElem? (i := 1016) (by decide +kernel)) (by decide +kernel), mTS (List.mem_of_getElem? (i := 1017) (by decide +kernel)) (by decide +kernel), mTS (List.mem_of_getElem? (i := 134) (by decide +kernel)) (by decide +kernel), cw_Descent_partBelow, ⟨by decide, by decide, by decide +kernel⟩, by decide +kernel, by decide⟩
theorem lk_Hall_209 : Cond.methodLink "InquestHall" 209 M_Descent_partAbove.1 ∈ TS := mTS (List.mem_of_getElem? (i := 1011) (by decide +kernel)) (by decide +kernel)
theorem mok_Descent_partAbove : MOK M_Descent_partAbove 0 := ⟨mTS (List.mem_of_getElem? (i := 1012) (by decide +kernel)) (by decide +kernel), mTS (List.mem_of_getElem? (i := 1013) (by decide +kernel)) (by decide +kernel), mTS (List.mem_of_getElem? (i := 134) (by decide +kernel)) (by decide +kernel), cw_Descent_partAbove, ⟨by decide, by decide, by decide +kernel⟩, by decide +kernel, by decide⟩
def tb_Hall_share : List (Nat × Instr × Nat) := [(0, .iload 4, 2), (2, .ifCond .lt 29, 3), (5, .iload 4, 2), (7, .iconst 5, 1), (8, .if_icmp .gt 23, 3), (11, .aload_n 0, 1), (12, .getfield 12, 3), (15, .iload_n 3, 1), (16, .invokevirtual 122, 3), (19, .ifCond .eq 12, 3), (22, .aload_n 0, 1), (23, .iload_n 1, 1), (24, .iload_n 2, 1), (25, .invokevirtual 191, 3), (28, .ifCond .ne 7, 3), (31, .ldc2_w 203, 3), (34, .lreturn, 1), (35, .iload 4, 2), (37, .iconst 2, 1), (38, .if_icmp .ge 7, 3), (41, .iconst 0, 1), (42, .goto 14, 3), (45, .iload 4, 2), (47, .iconst 4, 1), (48, .if_icmp .ge 7, 3), (51, .iconst 1, 1), (52, .goto 4, 3), (55, .iconst 2, 1), (56, .istore 5, 2), (58, .aload_n 0, 1), (59, .getfield 60, 3), (62, .iload_n 3, 1), (63, .iload 5, 2), (65, .invokevirtual 205, 3), (68, .iload 4, 2), (70, .iconst 2, 1), (71, .irem, 1), (72, .ifCond .ne 13, 3), (75, .aload_n 0, 1), (76, .getfield 60, 3), (79, .invokevirtual 209, 3), (82, .goto 10, 3), (85, .aload_n 0, 1), (86, .getfield 60, 3), (89, .invokevirtual 213, 3), (92, .lreturn, 1)]
theorem D_Hall_share (i : Nat) {pc len : Nat} {ins : Instr} (hi : tb_Hall_share[i]? = some (pc, ins, len)) : decode M_Hall_share.2.1 pc = .ok (ins, len) := dec_of (by decide +kernel) i hi
def f_Hall_share_L56 (G : GS) (x3 : Int) (x4 : Int) (s0 : Int) : Option (Int × GS) :=
  (f_Descent_part G x3 s0).bind fun q1 =>
  if md x4 2 = 0 then
    (f_Descent_partAbove q1).bind fun q3 =>
    some (q3, q1)
  else
    (f_Descent_partBelow q1).bind fun q2 =>
    some (q2, q1)
theorem s_Hall_share_L56 {X : XT} {r : Int × GS} : ∀ {G : GS} {x3 : Int} {x4 : Int} {s0 : Int}, wr x3 = x3 → wr x4 = x4 → wr s0 = s0 → f_Hall_share_L56 G x3 x4 s0 = some r → J X true 14 0 0 M_Hall_share (Rl r.1 r.2) NC 0 0 56 [(0, rf X 0), (3, vi x3), (4, vi x4)] [vi s0] G := by
  intro G x3 x4 s0 hx3 hx4 hs0 h
  unfold f_Hall_share_L56 at h
  refine j_istore (L' := [(5, vi s0), (0, rf X 0), (3, vi x3), (4, vi x4)]) (D_Hall_share 28 rfl) (hs0) (by decide) rfl ?_
  refine j_aloadn (k := 1) (D_Hall_share 29 rfl) rfl rfl ?_
  refine j_getR rfl fa_Hall_60 kd_0 lc_0 (by decide) rfl fx_0_6 (by decide) (D_Hall_share 30 rfl) ?_
  refine j_iloadn (k := 2) (D_Hall_share 31 rfl) rfl rfl ?_
  refine j_iload (k := 0) (D_Hall_share 32 rfl) rfl ?_
  obtain ⟨q1, e1, h⟩ := Option.bind_eq_some_iff.mp h
  refine j_cVv (c_Descent_part (hx3) (hs0) e1) rfl lk_Hall_205 mok_Descent_part kd_30 lc_30 rfl (by decide) rfl rfl (Nat.le_of_ble_eq_true rfl) (D_Hall_share 33 rfl) ?_
  refine j_iload (k := 3) (D_Hall_share 34 rfl) rfl ?_
  refine j_iconst (v := 2) (D_Hall_share 35 rfl) rfl ?_
  refine j_irem (D_Hall_share 36 rfl) (wr_lit rfl) (by decide) ?_
  refine j_if_ne (tgt := 85) (D_Hall_share 37 rfl) rfl (wr_md _ _) (fun c1 => ?_) (fun c1 => ?_)
  · replace h := ite_f h c1
    refine j_aloadn (k := 1) (D_Hall_share 42 rfl) rfl rfl ?_
    refine j_getR rfl fa_Hall_60 kd_0 lc_0 (by decide) rfl fx_0_6 (by decide) (D_Hall_share 43 rfl) ?_
    obtain ⟨q2, e2, h⟩ := Option.bind_eq_some_iff.mp h
    refine j_cVl (c_Descent_partBelow e2) rfl lk_Hall_213 mok_Descent_partBelow kd_30 lc_30 rfl (by decide) rfl rfl (Nat.le_of_ble_eq_true rfl) (D_Hall_share 44 rfl) (fun w1 => ?_)
    exact j_lret (D_Hall_share 45 rfl) rfl (w1) rfl rfl (leafL h (wl_n (w1)))
  · replace h := ite_t h c1
    refine j_aloadn (k := 1) (D_Hall_share 38 rfl) rfl rfl ?_
    refine j_getR rfl fa_Hall_60 kd_0 lc_0 (by decide) rfl fx_0_6 (by decide) (D_Hall_share 39 rfl) ?_
    obtain ⟨q3, e3, h⟩ := Option.bind_eq_some_iff.mp h
    refine j_cVl (c_Descent_partAbove e3) rfl lk_Hall_209 mok_Descent_partAbove kd_30 lc_30 rfl (by decide) rfl rfl (Nat.le_of_ble_eq_true rfl) (D_Hall_share 40 rfl) (fun w2 => ?_)
    refine j_goto (tgt := 92) (D_Hall_share 41 rfl) rfl ?_
    exact j_lret (D_Hall_share 45 rfl) rfl (w2) rfl rfl (leafL h (wl_n (w2)))
def f_Hall_share (G : GS) (a1 : Int) (a2 : Int) (a3 : Int) (a4 : Int) : Option (Int × GS) :=
  if a4 < 0 then
    some ((-1), G)
  else
    if 5 < a4 then
      some ((-1), G)
    else
      (f_People_has G a3).bind fun q1 =>
      if q1 = 0 then
        some ((-1), G)
      else
        (f_Hall_layDescent G a1 a2).bind fun q2 =>
        if q2.1 = 0 then
          some ((-1), q2.2)
        else
          if 2 ≤ a4 then
            if 4 ≤ a4 then
              f_Hall_share_L56 q2.2 a3 a4 2
            else
              f_Hall_share_L56 q2.2 a3 a4 1
          else
            f_Hall_share_L56 q2.2 a3 a4 0
theorem c_Hall_share {X : XT} {G : GS} {a1 : Int} {a2 : Int} {a3 : Int} {a4 : Int} {r : Int × GS} (ha1 : wr a1 = a1) (ha2 : wr a2 = a2) (ha3 : wr a3 = a3) (ha4 : wr a4 = a4) (h : f_Hall_share G a1 a2 a3 a4 = some r) : Call X true 14 0 0 M_Hall_share [rf X 0, vi a1, vi a2, vi a3, vi a4] NC G (Rl r.1 r.2) := by
  refine Call_of_J cw_Hall_share (by decide +kernel) (Nat.le_of_ble_eq_true rfl) ?_
  unfold f_Hall_share at h
  show J X true 14 0 0 M_Hall_share (Rl r.1 r.2) NC 0 0 0 [(0, rf X 0), (1, vi a1), (2, vi a2), (3, vi a3), (4, vi a4)] [] G
  refine j_iload (k := 4) (D_Hall_share 0 rfl) rfl ?_
  refine j_if_lt (tgt := 31) (D_Hall_share 1 rfl) rfl (ha4) (fun c1 => ?_) (fun c1 => ?_)
  · replace h := ite_t h c1
    refine j_ldc2 (v := (-1)) rfl ct_Hall_203 (by decide) (D_Hall_share 15 rfl) ?_
    exact j_lret (D_Hall_share 16 rfl) rfl (wl_lit rfl) rfl rfl (leafL h (wl_n (wl_lit rfl)))
  · replace h := ite_f h c1
    refine j_iload (k := 4) (D_Hall_share 2 rfl) rfl ?_
    refine j_iconst (v := 5) (D_Hall_share 3 rfl) rfl ?_
    refine j_ic_gt (tgt := 31) (D_Hall_share 4 rfl) rfl (ha4) (wr_lit rfl) (fun c2 => ?_) (fun c2 => ?_)
    · replace h := ite_t h c2
      refine j_ldc2 (v := (-1)) rfl ct_Hall_203 (by decide) (D_Hall_share 15 rfl) ?_
      exact j_lret (D_Hall_share 16 rfl) rfl (wl_lit rfl) rfl rfl (leafL h (wl_n (wl_lit rfl)))
    · replace h := ite_f h c2
      refine j_aloadn (k := 0) (D_Hall_share 5 rfl) rfl rfl ?_
      refine j_getR rfl fa_Hall_12 kd_0 lc_0 (by decide) rfl fx_0_0 (by decide) (D_Hall_share 6 rfl) ?_
      refine j_iloadn (k := 3) (D_Hall_share 7 rfl) rfl rfl ?_
      obtain ⟨q1, e1, h⟩ := Option.bind_eq_some_iff.mp h
      refine j_cVz (c_People_has (ha3) e1) rfl lk_Hall_122 mok_People_has kd_1 lc_1 rfl (by decide) rfl rfl (Nat.le_of_ble_eq_true rfl) (D_Hall_share 8 rfl) (fun w1 bw1 => ?_)
      refine j_if_eq (tgt := 31) (D_Hall_share 9 rfl) rfl (w1) (fun c3 => ?_) (fun c3 => ?_)
      · replace h := ite_t h c3
        refine j_ldc2 (v := (-1)) rfl ct_Hall_203 (by decide) (D_Hall_share 15 rfl) ?_
        exact j_lret (D_Hall_share 16 rfl) rfl (wl_lit rfl) rfl rfl (leafL h (wl_n (wl_lit rfl)))
      · replace h := ite_f h c3
        refine j_aloadn (k := 0) (D_Hall_share 10 rfl) rfl rfl ?_
        refine j_iloadn (k := 1) (D_Hall_share 11 rfl) rfl rfl ?_
        refine j_iloadn (k := 2) (D_Hall_share 12 rfl) rfl rfl ?_
        obtain ⟨q2, e2, h⟩ := Option.bind_eq_some_iff.mp h
        refine j_cVz (c_Hall_layDescent (ha1) (ha2) e2) rfl lk_Hall_191 mok_Hall_layDescent kd_0 lc_0 rfl (by decide) rfl rfl (Nat.le_of_ble_eq_true rfl) (D_Hall_share 13 rfl) (fun w2 bw2 => ?_)
        refine j_if_ne (tgt := 35) (D_Hall_share 14 rfl) rfl (w2) (fun c4 => ?_) (fun c4 => ?_)
        · replace h := ite_f h c4
          refine j_iload (k := 4) (D_Hall_share 17 rfl) rfl ?_
          refine j_iconst (v := 2) (D_Hall_share 18 rfl) rfl ?_
          refine j_ic_ge (tgt := 45) (D_Hall_share 19 rfl) rfl (ha4) (wr_lit rfl) (fun c5 => ?_) (fun c5 => ?_)
          · replace h := ite_t h c5
            refine j_iload (k := 4) (D_Hall_share 22 rfl) rfl ?_
            refine j_iconst (v := 4) (D_Hall_share 23 rfl) rfl ?_
            refine j_ic_ge (tgt := 55) (D_Hall_share 24 rfl) rfl (ha4) (wr_lit rfl) (fun c6 => ?_) (fun c6 => ?_)
            · replace h := ite_t h c6
              refine j_iconst (v := 2) (D_Hall_share 27 rfl) rfl ?_
              refine j_loc [0, 3, 4] rfl ?_
              exact s_Hall_share_L56 (ha3) (ha4) (wr_lit rfl) h
            · replace h := ite_f h c6
              refine j_iconst (v := 1) (D_Hall_share 25 rfl) rfl ?_
              refine j_goto (tgt := 56) (D_Hall_share 26 rfl) rfl ?_
              refine j_loc [0, 3, 4] rfl ?_
              exact s_Hall_share_L56 (ha3) (ha4) (wr_lit rfl) h
          · replace h := ite_f h c5
            refine j_iconst (v := 0) (D_Hall_share 20 rfl) rfl ?_
            refine j_goto (tgt := 56) (D_Hall_share 21 rfl) rfl ?_
            refine j_loc [0, 3, 4] rfl ?_
            exact s_Hall_share_L56 (ha3) (ha4) (wr_lit rfl) h
        · replace h := ite_t h c4
          refine j_ldc2 (v := (-1)) rfl ct_Hall_203 (by decide) (D_Hall_share 15 rfl) ?_
          exact j_lret (D_Hall_share 16 rfl) rfl (wl_lit rfl) rfl rfl (leafL h (wl_n (wl_lit rfl)))
abbrev M_Model_share : MI := (⟨"InquestHallModel", "share", "(IIII)J"⟩, prog_14_method_66_code, 5, (some .long))
theorem cw_Model_share : Cond.code M_Model_share.1 M_Model_share.2.1 M_Model_share.2.2.1 M_Model_share.2.2.2 ∈ TS := mTS (List.mem_of_getElem? (i := 1853) (by decide +kernel)) (by decide +kernel)
theorem ct_Model_482 : Cond.constantLong "InquestHallModel" 482 (-1 : Int64) ∈ TS := mTS (List.mem_of_getElem? (i := 1854) (by decide +kernel)) (by decide +kernel)
def tb_Model_share : List (Nat × Instr × Nat) := [(0, .aload_n 0, 1), (1, .iload_n 1, 1), (2, .iload_n 2, 1), (3, .invokevirtual 475, 3), (6, .ifCond .eq 21, 3), (9, .aload_n 0, 1), (10, .iload_n 3, 1), (11, .invokevirtual 198, 3), (14, .ifCond .eq 13, 3), (17, .iload 4, 2), (19, .iconst 0, 1), (20, .iconst 5, 1), (21, .invokestatic 188, 3), (24, .ifCond .ne 7, 3), (27, .ldc2_w 482, 3), (30, .lreturn, 1), (31, .aload_n 0, 1), (32, .iload_n 1, 1), (33, .iload_n 2, 1), (34, .iload_n 3, 1), (35, .iload 4, 2), (37, .iconst 2, 1), (38, .idiv, 1), (39, .invokevirtual 472, 3), (42, .iload 4, 2), (44, .iconst 2, 1), (45, .irem, 1), (46, .ifCond .ne 10, 3), (49, .aload_n 0, 1), (50, .getfield 432, 3), (53, .goto 7, 3), (56, .aload_n 0, 1), (57, .getfield 436, 3), (60, .lreturn, 1)]
theorem D_Model_share (i : Nat) {pc len : Nat} {ins : Instr} (hi : tb_Model_share[i]? = some (pc, ins, len)) : decode M_Model_share.2.1 pc = .ok (ins, len) := dec_of (by decide +kernel) i hi
def f_Model_share (G : GS) (a1 : Int) (a2 : Int) (a3 : Int) (a4 : Int) : Option (Int × GS) :=
  (f_Model_canAsk G a1 a2).bind fun q1 =>
  if q1 = 0 then
    some ((-1), G)
  else
    (f_Model_isPerson G a3).bind fun q2 =>
    if q2 = 0 then
      some ((-1), G)
    else
      (f_Model_isIn G a4 0 5).bind fun q3 =>
      if q3 = 0 then
        some ((-1), G)
      else
        (f_Model_partOf G a1 a2 a3 (dv a4 2)).bind fun q4 =>
        if md a4 2 = 0 then
          some (gl q4 81 61, q4)
        else
          some (gl q4 81 62, q4)
theorem c_Model_share {X : XT} {G : GS} {a1 : Int} {a2 : Int} {a3 : Int} {a4 : Int} {r : Int × GS} (ha1 : wr a1 = a1) (ha2 : wr a2 = a2) (ha3 : wr a3 = a3) (ha4 : wr a4 = a4) (h : f_Model_share G a1 a2 a3 a4 = some r) : Call X true 13 0 0 M_Model_share [rf X 81, vi a1, vi a2, vi a3, vi a4] NC G (Rl r.1 r.2) := by
  refine Call_of_J cw_Model_share (by decide +kernel) (Nat.le_of_ble_eq_true rfl) ?_
  unfold f_Model_share at h
  show J X true 13 0 0 M_Model_share (Rl r.1 r.2) NC 0 0 0 [(0, rf X 81), (1, vi a1), (2, vi a2), (3, vi a3), (4, vi a4)] [] G
  refine j_aloadn (k := 0) (D_Model_share 0 rfl) rfl rfl ?_
  refine j_iloadn (k := 1) (D_Model_share 1 rfl) rfl rfl ?_
  refine j_iloadn (k := 2) (D_Model_share 2 rfl) rfl rfl ?_
  obtain ⟨q1, e1, h⟩ := Option.bind_eq_some_iff.mp h
  refine j_cVz (c_Model_canAsk (ha1) (ha2) e1) rfl lk_Model_475 mok_Model_canAsk kd_81 lc_81 rfl (by decide) rfl rfl (Nat.le_of_ble_eq_true rfl) (D_Model_share 3 rfl) (fun w1 bw1 => ?_)
  refine j_if_eq (tgt := 27) (D_Model_share 4 rfl) rfl (w1) (fun c1 => ?_) (fun c1 => ?_)
  · replace h := ite_t h c1
    refine j_ldc2 (v := (-1)) rfl ct_Model_482 (by decide) (D_Model_share 14 rfl) ?_
    exact j_lret (D_Model_share 15 rfl) rfl (wl_lit rfl) rfl rfl (leafL h (wl_n (wl_lit rfl)))
  · replace h := ite_f h c1
    refine j_aloadn (k := 0) (D_Model_share 5 rfl) rfl rfl ?_
    refine j_iloadn (k := 3) (D_Model_share 6 rfl) rfl rfl ?_
    obtain ⟨q2, e2, h⟩ := Option.bind_eq_some_iff.mp h
    refine j_cVz (c_Model_isPerson (ha3) e2) rfl lk_Model_198 mok_Model_isPerson kd_81 lc_81 rfl (by decide) rfl rfl (Nat.le_of_ble_eq_true rfl) (D_Model_share 7 rfl) (fun w2 bw2 => ?_)
    refine j_if_eq (tgt := 27) (D_Model_share 8 rfl) rfl (w2) (fun c2 => ?_) (fun c2 => ?_)
    · replace h := ite_t h c2
      refine j_ldc2 (v := (-1)) rfl ct_Model_482 (by decide) (D_Model_share 14 rfl) ?_
      exact j_lret (D_Model_share 15 rfl) rfl (wl_lit rfl) rfl rfl (leafL h (wl_n (wl_lit rfl)))
    · replace h := ite_f h c2
      refine j_iload (k := 4) (D_Model_share 9 rfl) rfl ?_
      refine j_iconst (v := 0) (D_Model_share 10 rfl) rfl ?_
      refine j_iconst (v := 5) (D_Model_share 11 rfl) rfl ?_
      obtain ⟨q3, e3, h⟩ := Option.bind_eq_some_iff.mp h
      refine j_cSz (c_Model_isIn (ha4) (wr_lit rfl) (wr_lit rfl) e3) rfl lk_Model_188 sok_Model_isIn (by decide) rfl rfl (Nat.le_of_ble_eq_true rfl) (D_Model_share 12 rfl) (fun w3 bw3 => ?_)
      refine j_if_ne (tgt := 31) (D_Model_share 13 rfl) rfl (w3) (fun c3 => ?_) (fun c3 => ?_)
      · replace h := ite_f h c3
        refine j_aloadn (k := 0) (D_Model_share 16 rfl) rfl rfl ?_
        refine j_iloadn (k := 1) (D_Model_share 17 rfl) rfl rfl ?_
        refine j_iloadn (k := 2) (D_Model_share 18 rfl) rfl rfl ?_
        refine j_iloadn (k := 3) (D_Model_share 19 rfl) rfl rfl ?_
        refine j_iload (k := 4) (D_Model_share 20 rfl) rfl ?_
        refine j_iconst (v := 2) (D_Model_share 21 rfl) rfl ?_
        refine j_idiv (D_Model_share 22 rfl) (wr_lit rfl) (by decide) ?_
        obtain ⟨q4, e4, h⟩ := Option.bind_eq_some_iff.mp h
        refine j_cVv (c_Model_partOf (ha1) (ha2) (ha3) (wr_dv _ _) e4) rfl lk_Model_472 mok_Model_partOf kd_81 lc_81 rfl (by decide) rfl rfl (Nat.le_of_ble_eq_true rfl) (D_Model_share 23 rfl) ?_
        refine j_iload (k := 4) (D_Model_share 24 rfl) rfl ?_
        refine j_iconst (v := 2) (D_Model_share 25 rfl) rfl ?_
        refine j_irem (D_Model_share 26 rfl) (wr_lit rfl) (by decide) ?_
        refine j_if_ne (tgt := 56) (D_Model_share 27 rfl) rfl (wr_md _ _) (fun c4 => ?_) (fun c4 => ?_)
        · replace h := ite_f h c4
          refine j_aloadn (k := 0) (D_Model_share 31 rfl) rfl rfl ?_
          refine j_getJ rfl fa_Model_436 kd_81 lc_81 (by decide) rfl (D_Model_share 32 rfl) ?_
          exact j_lret (D_Model_share 33 rfl) rfl (wl_gl _ _ _) rfl rfl (leafL h (wl_n (wl_gl _ _ _)))
        · replace h := ite_t h c4
          refine j_aloadn (k := 0) (D_Model_share 28 rfl) rfl rfl ?_
          refine j_getJ rfl fa_Model_432 kd_81 lc_81 (by decide) rfl (D_Model_share 29 rfl) ?_
          refine j_goto (tgt := 60) (D_Model_share 30 rfl) rfl ?_
          exact j_lret (D_Model_share 33 rfl) rfl (wl_gl _ _ _) rfl rfl (leafL h (wl_n (wl_gl _ _ _)))
      · replace h := ite_t h c3
        refine j_ldc2 (v := (-1)) rfl ct_Model_482 (by decide) (D_Model_share 14 rfl) ?_
        exact j_lret (D_Model_share 15 rfl) rfl (wl_lit rfl) rfl rfl (leafL h (wl_n (wl_lit rfl)))
abbrev M_Hall_isHeir : MI := (⟨"InquestHall", "isHeir", "(III)Z"⟩, prog_1_method_40_code, 4, (some .boolean))
theorem cw_Hall_isHeir : Cond.code M_Hall_isHeir.1 M_Hall_isHeir.2.1 M_Hall_isHeir.2.2.1 M_Hall_isHeir.2.2.2 ∈ TS := mTS (List.mem_of_getElem? (i := 1026) (by decide +kernel)) (by decide +kernel)
def tb_Hall_isHeir : List (Nat × Instr × Nat) := [(0, .aload_n 0, 1), (1, .getfield 12, 3), (4, .iload_n 3, 1), (5, .invokevirtual 122, 3), (8, .ifCond .eq 30, 3), (11, .aload_n 0, 1), (12, .iload_n 1, 1), (13, .iload_n 2, 1), (14, .invokevirtual 191, 3), (17, .ifCond .eq 21, 3), (20, .aload_n 0, 1), (21, .getfield 60, 3), (24, .invokevirtual 194, 3), (27, .iconst 1, 1), (28, .iload_n 3, 1), (29, .ishl, 1), (30, .iand, 1), (31, .ifCond .eq 7, 3), (34, .iconst 1, 1), (35, .goto 4, 3), (38, .iconst 0, 1), (39, .ireturn, 1)]
theorem D_Hall_isHeir (i : Nat) {pc len : Nat} {ins : Instr} (hi : tb_Hall_isHeir[i]? = some (pc, ins, len)) : decode M_Hall_isHeir.2.1 pc = .ok (ins, len) := dec_of (by decide +kernel) i hi
def f_Hall_isHeir (G : GS) (a1 : Int) (a2 : Int) (a3 : Int) : Option (Int × GS) :=
  (f_People_has G a3).bind fun q1 =>
  if q1 = 0 then
    some (0, G)
  else
    (f_Hall_layDescent G a1 a2).bind fun q2 =>
    if q2.1 = 0 then
      some (0, q2.2)
    else
      (f_Descent_heirSet q2.2).bind fun q3 =>
      if bAnd q3 (bShl 1 a3) = 0 then
        some (0, q2.2)
      else
        some (1, q2.2)
theorem c_Hall_isHeir {X : XT} {G : GS} {a1 : Int} {a2 : Int} {a3 : Int} {r : Int × GS} (ha1 : wr a1 = a1) (ha2 : wr a2 = a2) (ha3 : wr a3 = a3) (h : f_Hall_isHeir G a1 a2 a3 = some r) : Call X true 13 0 0 M_Hall_isHeir [rf X 0, vi a1, vi a2, vi a3] NC G (Rz r.1 r.2) := by
  refine Call_of_J cw_Hall_isHeir (by decide +kernel) (Nat.le_of_ble_eq_true rfl) ?_
  unfold f_Hall_isHeir at h
  show J X true 13 0 0 M_Hall_isHeir (Rz r.1 r.2) NC 0 0 0 [(0, rf X 0), (1, vi a1), (2, vi a2), (3, vi a3)] [] G
  refine j_aloadn (k := 0) (D_Hall_isHeir 0 rfl) rfl rfl ?_
  refine j_getR rfl fa_Hall_12 kd_0 lc_0 (by decide) rfl fx_0_0 (by decide) (D_Hall_isHeir 1 rfl) ?_
  refine j_iloadn (k := 3) (D_Hall_isHeir 2 rfl) rfl rfl ?_
  obtain ⟨q1, e1, h⟩ := Option.bind_eq_some_iff.mp h
  refine j_cVz (c_People_has (ha3) e1) rfl lk_Hall_122 mok_People_has kd_1 lc_1 rfl (by decide) rfl rfl (Nat.le_of_ble_eq_true rfl) (D_Hall_isHeir 3 rfl) (fun w1 bw1 => ?_)
  refine j_if_eq (tgt := 38) (D_Hall_isHeir 4 rfl) rfl (w1) (fun c1 => ?_) (fun c1 => ?_)
  · replace h := ite_t h c1
    refine j_iconst (v := 0) (D_Hall_isHeir 20 rfl) rfl ?_
    exact j_zret (D_Hall_isHeir 21 rfl) rfl (wr_lit rfl) (nz_01 (by decide)) rfl rfl (leafZ h (wr_n (wr_lit rfl)) (by decide))
  · replace h := ite_f h c1
    refine j_aloadn (k := 0) (D_Hall_isHeir 5 rfl) rfl rfl ?_
    refine j_iloadn (k := 1) (D_Hall_isHeir 6 rfl) rfl rfl ?_
    refine j_iloadn (k := 2) (D_Hall_isHeir 7 rfl) rfl rfl ?_
    obtain ⟨q2, e2, h⟩ := Option.bind_eq_some_iff.mp h
    refine j_cVz (c_Hall_layDescent (ha1) (ha2) e2) rfl lk_Hall_191 mok_Hall_layDescent kd_0 lc_0 rfl (by decide) rfl rfl (Nat.le_of_ble_eq_true rfl) (D_Hall_isHeir 8 rfl) (fun w2 bw2 => ?_)
    refine j_if_eq (tgt := 38) (D_Hall_isHeir 9 rfl) rfl (w2) (fun c2 => ?_) (fun c2 => ?_)
    · replace h := ite_t h c2
      refine j_iconst (v := 0) (D_Hall_isHeir 20 rfl) rfl ?_
      exact j_zret (D_Hall_isHeir 21 rfl) rfl (wr_lit rfl) (nz_01 (by decide)) rfl rfl (leafZ h (wr_n (wr_lit rfl)) (by decide))
    · replace h := ite_f h c2
      refine j_aloadn (k := 0) (D_Hall_isHeir 10 rfl) rfl rfl ?_
      refine j_getR rfl fa_Hall_60 kd_0 lc_0 (by decide) rfl fx_0_6 (by decide) (D_Hall_isHeir 11 rfl) ?_
      obtain ⟨q3, e3, h⟩ := Option.bind_eq_some_iff.mp h
      refine j_cVi (c_Descent_heirSet e3) rfl lk_Hall_194 mok_Descent_heirSet kd_30 lc_30 rfl (by decide) rfl rfl (Nat.le_of_ble_eq_true rfl) (D_Hall_isHeir 12 rfl) (fun w3 => ?_)
      refine j_iconst (v := 1) (D_Hall_isHeir 13 rfl) rfl ?_
      refine j_iloadn (k := 3) (D_Hall_isHeir 14 rfl) rfl rfl ?_
      refine j_ishl (D_Hall_isHeir 15 rfl) ?_
      refine j_iand (D_Hall_isHeir 16 rfl) ?_
      refine j_if_eq (tgt := 38) (D_Hall_isHeir 17 rfl) rfl (wr_bAnd _ _) (fun c3 => ?_) (fun c3 => ?_)
      · replace h := ite_t h c3
        refine j_iconst (v := 0) (D_Hall_isHeir 20 rfl) rfl ?_
        exact j_zret (D_Hall_isHeir 21 rfl) rfl (wr_lit rfl) (nz_01 (by decide)) rfl rfl (leafZ h (wr_n (wr_lit rfl)) (by decide))
      · replace h := ite_f h c3
        refine j_iconst (v := 1) (D_Hall_isHeir 18 rfl) rfl ?_
        refine j_goto (tgt := 39) (D_Hall_isHeir 19 rfl) rfl ?_
        exact j_zret (D_Hall_isHeir 21 rfl) rfl (wr_lit rfl) (nz_01 (by decide)) rfl rfl (leafZ h (wr_n (wr_lit rfl)) (by decide))
abbrev M_Hall_wardDays : MI := (⟨"InquestHall", "wardDays", "(III)I"⟩, prog_1_method_41_code, 6, (some .int))
theorem cw_Hall_wardDays : Cond.code M_Hall_wardDays.1 M_Hall_wardDays.2.1 M_Hall_wardDays.2.2.1 M_Hall_wardDays.2.2.2 ∈ TS := mTS (List.mem_of_getElem? (i := 1035) (by decide +kernel)) (by decide +kernel)
theorem fa_Hall_358 : FA "InquestHall" 358 2 1 true (.array .int) := ⟨_, _, _, _, ok_Lands, by decide, mTS (List.mem_of_getElem? (i := 203) (by decide +kernel)) (by decide +kernel), rfl, rfl⟩
theorem fa_Hall_364 : FA "InquestHall" 364 11 2 true (.array .int) := ⟨_, _, _, _, ok_Law, by decide, mTS (List.mem_of_getElem? (i := 551) (by decide +kernel)) (by decide +kernel), rfl, rfl⟩
theorem fa_Hall_361 : FA "InquestHall" 361 11 1 true (.array .int) := ⟨_, _, _, _, ok_Law, by decide, mTS (List.mem_of_getElem? (i := 548) (by decide +kernel)) (by decide +kernel), rfl, rfl⟩
def tb_Hall_wardDays : List (Nat × Instr × Nat) := [(0, .aload_n 0, 1), (1, .aload_n 0, 1), (2, .getfield 12, 3), (5, .getfield 131, 3), (8, .iload_n 1, 1), (9, .iaload, 1), (10, .invokevirtual 185, 3), (13, .astore 4, 2), (15, .aload_n 0, 1), (16, .getfield 19, 3), (19, .getfield 358, 3), (22, .iload_n 2, 1), (23, .iaload, 1), (24, .istore 5, 2), (26, .sipush 360, 3), (29, .aload_n 0, 1), (30, .getfield 12, 3), (33, .iload_n 3, 1), (34, .invokevirtual 107, 3), (37, .ifCond .eq 14, 3), (40, .aload 4, 2), (42, .getfield 361, 3), (45, .iload 5, 2), (47, .iaload, 1), (48, .goto 11, 3), (51, .aload 4, 2), (53, .getfield 364, 3), (56, .iload 5, 2), (58, .iaload, 1), (59, .imul, 1), (60, .ireturn, 1)]
theorem D_Hall_wardDays (i : Nat) {pc len : Nat} {ins : Instr} (hi : tb_Hall_wardDays[i]? = some (pc, ins, len)) : decode M_Hall_wardDays.2.1 pc = .ok (ins, len) := dec_of (by decide +kernel) i hi
def f_Hall_wardDays (G : GS) (a1 : Int) (a2 : Int) (a3 : Int) : Option (Int) :=
  gd (0 ≤ a1 ∧ a1 < 32) <|
  (f_Hall_lawAt G (gi G 7 a1.toNat)).bind fun q1 =>
  gd (0 ≤ a2 ∧ a2 < 12) <|
  (f_People_isMan G a3).bind fun q2 =>
  if q2 = 0 then
    gd (0 ≤ gi G 11 a2.toNat ∧ gi G 11 a2.toNat < 3) <|
    some (wr (360 * (gi G (q1 + 3) (gi G 11 a2.toNat).toNat)))
  else
    gd (0 ≤ gi G 11 a2.toNat ∧ gi G 11 a2.toNat < 3) <|
    some (wr (360 * (gi G (q1 + 2) (gi G 11 a2.toNat).toNat)))
theorem c_Hall_wardDays {X : XT} {G : GS} {a1 : Int} {a2 : Int} {a3 : Int} {r : Int} (ha1 : wr a1 = a1) (ha2 : wr a2 = a2) (ha3 : wr a3 = a3) (h : f_Hall_wardDays G a1 a2 a3 = some r) : Call X true 8 0 0 M_Hall_wardDays [rf X 0, vi a1, vi a2, vi a3] NC G (Ri r G) := by
  refine Call_of_J cw_Hall_wardDays (by decide +kernel) (Nat.le_of_ble_eq_true rfl) ?_
  unfold f_Hall_wardDays at h
  show J X true 8 0 0 M_Hall_wardDays (Ri r G) NC 0 0 0 [(0, rf X 0), (1, vi a1), (2, vi a2), (3, vi a3)] [] G
  refine j_aloadn (k := 0) (D_Hall_wardDays 0 rfl) rfl rfl ?_
  refine j_aloadn (k := 0) (D_Hall_wardDays 1 rfl) rfl rfl ?_
  refine j_getR rfl fa_Hall_12 kd_0 lc_0 (by decide) rfl fx_0_0 (by decide) (D_Hall_wardDays 2 rfl) ?_
  refine j_getR rfl fa_Hall_131 kd_1 lc_1 (by decide) rfl fx_1_5 (by decide) (D_Hall_wardDays 3 rfl) ?_
  refine j_iloadn (k := 1) (D_Hall_wardDays 4 rfl) rfl rfl ?_
  have g1 := gd_c h
  replace h := gd_s h
  refine j_iald (NI := 32) (D_Hall_wardDays 5 rfl) kd_7 lc_7 (ha1) rfl g1.1 g1.2 ?_
  obtain ⟨q1, e1, h⟩ := Option.bind_eq_some_iff.mp h
  refine j_cVr (c_Hall_lawAt (wr_gi _ _ _) e1) rfl lk_Hall_185 mok_Hall_lawAt kd_0 lc_0 rfl (by decide) rfl rfl (Nat.le_of_ble_eq_true rfl) (D_Hall_wardDays 6 rfl) (fun w1 => ?_)
  refine j_astore (L' := [(4, rf X q1), (0, rf X 0), (1, vi a1), (2, vi a2), (3, vi a3)]) (D_Hall_wardDays 7 rfl) (by decide) rfl ?_
  refine j_aloadn (k := 1) (D_Hall_wardDays 8 rfl) rfl rfl ?_
  refine j_getR rfl fa_Hall_19 kd_0 lc_0 (by decide) rfl fx_0_1 (by decide) (D_Hall_wardDays 9 rfl) ?_
  refine j_getR rfl fa_Hall_358 kd_9 lc_9 (by decide) rfl fx_9_1 (by decide) (D_Hall_wardDays 10 rfl) ?_
  refine j_iloadn (k := 3) (D_Hall_wardDays 11 rfl) rfl rfl ?_
  have g2 := gd_c h
  replace h := gd_s h
  refine j_iald (NI := 12) (D_Hall_wardDays 12 rfl) kd_11 lc_11 (ha2) rfl g2.1 g2.2 ?_
  refine j_istore (L' := [(5, vi (gi G 11 a2.toNat)), (4, rf X q1), (0, rf X 0), (1, vi a1), (2, vi a2), (3, vi a3)]) (D_Hall_wardDays 13 rfl) (wr_gi _ _ _) (by decide) rfl ?_
  refine j_sipush (v := 360) (D_Hall_wardDays 14 rfl) rfl ?_
  refine j_aloadn (k := 2) (D_Hall_wardDays 15 rfl) rfl rfl ?_
  refine j_getR rfl fa_Hall_12 kd_0 lc_0 (by decide) rfl fx_0_0 (by decide) (D_Hall_wardDays 16 rfl) ?_
  refine j_iloadn (k := 5) (D_Hall_wardDays 17 rfl) rfl rfl ?_
  obtain ⟨q2, e2, h⟩ := Option.bind_eq_some_iff.mp h
  refine j_cVz (c_People_isMan (ha3) e2) rfl lk_Hall_107 mok_People_isMan kd_1 lc_1 rfl (by decide) rfl rfl (Nat.le_of_ble_eq_true rfl) (D_Hall_wardDays 18 rfl) (fun w2 bw2 => ?_)
  refine j_if_eq (tgt := 51) (D_Hall_wardDays 19 rfl) rfl (w2) (fun c1 => ?_) (fun c1 => ?_)
  · replace h := ite_t h c1
    refine j_aload (k := 1) (D_Hall_wardDays 25 rfl) rfl ?_
    refine j_getR rfl fa_Hall_364 (law_kd w1).1 (law_kd w1).2.1 (by decide) rfl (fun w => law_fx3 w w1) (by omega) (D_Hall_wardDays 26 rfl) ?_
    refine j_iload (k := 0) (D_Hall_wardDays 27 rfl) rfl ?_
    have g3 := gd_c h
    replace h := gd_s h
    refine j_iald (NI := 3) (D_Hall_wardDays 28 rfl) (law_kd3 w1).1 (law_kd3 w1).2 (wr_gi _ _ _) rfl g3.1 g3.2 ?_
    refine j_imul (D_Hall_wardDays 29 rfl) ?_
    exact j_iret (D_Hall_wardDays 30 rfl) rfl (rfl) rfl rfl (leafIo h (wr_n (rfl)))
  · replace h := ite_f h c1
    refine j_aload (k := 1) (D_Hall_wardDays 20 rfl) rfl ?_
    refine j_getR rfl fa_Hall_361 (law_kd w1).1 (law_kd w1).2.1 (by decide) rfl (fun w => law_fx2 w w1) (by omega) (D_Hall_wardDays 21 rfl) ?_
    refine j_iload (k := 0) (D_Hall_wardDays 22 rfl) rfl ?_
    have g4 := gd_c h
    replace h := gd_s h
    refine j_iald (NI := 3) (D_Hall_wardDays 23 rfl) (law_kd2 w1).1 (law_kd2 w1).2 (wr_gi _ _ _) rfl g4.1 g4.2 ?_
    refine j_goto (tgt := 59) (D_Hall_wardDays 24 rfl) rfl ?_
    refine j_imul (D_Hall_wardDays 29 rfl) ?_
    exact j_iret (D_Hall_wardDays 30 rfl) rfl (rfl) rfl rfl (leafIo h (wr_n (rfl)))
abbrev M_Hall_isOfAge : MI := (⟨"InquestHall", "isOfAge", "(III)Z"⟩, prog_1_method_42_code, 4, (some .boolean))
theorem cw_Hall_isOfAge : Cond.code M_Hall_isOfAge.1 M_Hall_isOfAge.2.1 M_Hall_isOfAge.2.2.1 M_Hall_isOfAge.2.2.2 ∈ TS := mTS (List.mem_of_getElem? (i := 1031) (by decide +kernel)) (by decide +kernel)
theorem lk_Hall_225 : Cond.methodLink "InquestHall" 225 M_Hall_wardDays.1 ∈ TS := mTS (List.mem_of_getElem? (i := 1032) (by decide +kernel)) (by decide +kernel)
theorem mok_Hall_wardDays : MOK M_Hall_wardDays 3 := ⟨mTS (List.mem_of_getElem? (i := 1034) (by decide +kernel)) (by decide +kernel), mTS (List.mem_of_getElem? (i := 37) (by decide +kernel)) (by decide +kernel), mTS (List.mem_of_getElem? (i := 122) (by decide +kernel)) (by decide +kernel), cw_Hall_wardDays, ⟨by decide, by decide, by decide +kernel⟩, by decide +kernel, by decide⟩
def tb_Hall_isOfAge : List (Nat × Instr × Nat) := [(0, .aload_n 0, 1), (1, .getfield 12, 3), (4, .getfield 128, 3), (7, .iload_n 3, 1), (8, .iaload, 1), (9, .aload_n 0, 1), (10, .iload_n 1, 1), (11, .iload_n 2, 1), (12, .iload_n 3, 1), (13, .invokevirtual 225, 3), (16, .iadd, 1), (17, .aload_n 0, 1), (18, .getfield 12, 3), (21, .getfield 131, 3), (24, .iload_n 1, 1), (25, .iaload, 1), (26, .if_icmp .gt 7, 3), (29, .iconst 1, 1), (30, .goto 4, 3), (33, .iconst 0, 1), (34, .ireturn, 1)]
theorem D_Hall_isOfAge (i : Nat) {pc len : Nat} {ins : Instr} (hi : tb_Hall_isOfAge[i]? = some (pc, ins, len)) : decode M_Hall_isOfAge.2.1 pc = .ok (ins, len) := dec_of (by decide +kernel) i hi
def f_Hall_isOfAge (G : GS) (a1 : Int) (a2 : Int) (a3 : Int) : Option (Int) :=
  gd (0 ≤ a3 ∧ a3 < 32) <|
  (f_Hall_wardDays G a1 a2 a3).bind fun q1 =>
  gd (0 ≤ a1 ∧ a1 < 32) <|
  if gi G 7 a1.toNat < wr ((gi G 5 a3.toNat) + q1) then
    some 0
  else
    some 1
theorem c_Hall_isOfAge {X : XT} {G : GS} {a1 : Int} {a2 : Int} {a3 : Int} {r : Int} (ha1 : wr a1 = a1) (ha2 : wr a2 = a2) (ha3 : wr a3 = a3) (h : f_Hall_isOfAge G a1 a2 a3 = some r) : Call X true 9 0 0 M_Hall_isOfAge [rf X 0, vi a1, vi a2, vi a3] NC G (Rz r G) := by
  refine Call_of_J cw_Hall_isOfAge (by decide +kernel) (Nat.le_of_ble_eq_true rfl) ?_
  unfold f_Hall_isOfAge at h
  show J X true 9 0 0 M_Hall_isOfAge (Rz r G) NC 0 0 0 [(0, rf X 0), (1, vi a1), (2, vi a2), (3, vi a3)] [] G
  refine j_aloadn (k := 0) (D_Hall_isOfAge 0 rfl) rfl rfl ?_
  refine j_getR rfl fa_Hall_12 kd_0 lc_0 (by decide) rfl fx_0_0 (by decide) (D_Hall_isOfAge 1 rfl) ?_
  refine j_getR rfl fa_Hall_128 kd_1 lc_1 (by decide) rfl fx_1_3 (by decide) (D_Hall_isOfAge 2 rfl) ?_
  refine j_iloadn (k := 3) (D_Hall_isOfAge 3 rfl) rfl rfl ?_
  have g1 := gd_c h
  replace h := gd_s h
  refine j_iald (NI := 32) (D_Hall_isOfAge 4 rfl) kd_5 lc_5 (ha3) rfl g1.1 g1.2 ?_
  refine j_aloadn (k := 0) (D_Hall_isOfAge 5 rfl) rfl rfl ?_
  refine j_iloadn (k := 1) (D_Hall_isOfAge 6 rfl) rfl rfl ?_
  refine j_iloadn (k := 2) (D_Hall_isOfAge 7 rfl) rfl rfl ?_
  refine j_iloadn (k := 3) (D_Hall_isOfAge 8 rfl) rfl rfl ?_
  obtain ⟨q1, e1, h⟩ := Option.bind_eq_some_iff.mp h
  refine j_cVi (c_Hall_wardDays (ha1) (ha2) (ha3) e1) rfl lk_Hall_225 mok_Hall_wardDays kd_0 lc_0 rfl (by decide) rfl rfl (Nat.le_of_ble_eq_true rfl) (D_Hall_isOfAge 9 rfl) (fun w1 => ?_)
  refine j_iadd (D_Hall_isOfAge 10 rfl) ?_
  refine j_aloadn (k := 0) (D_Hall_isOfAge 11 rfl) rfl rfl ?_
  refine j_getR rfl fa_Hall_12 kd_0 lc_0 (by decide) rfl fx_0_0 (by decide) (D_Hall_isOfAge 12 rfl) ?_
  refine j_getR rfl fa_Hall_131 kd_1 lc_1 (by decide) rfl fx_1_5 (by decide) (D_Hall_isOfAge 13 rfl) ?_
  refine j_iloadn (k := 1) (D_Hall_isOfAge 14 rfl) rfl rfl ?_
  have g2 := gd_c h
  replace h := gd_s h
  refine j_iald (NI := 32) (D_Hall_isOfAge 15 rfl) kd_7 lc_7 (ha1) rfl g2.1 g2.2 ?_
  refine j_ic_gt (tgt := 33) (D_Hall_isOfAge 16 rfl) rfl (rfl) (wr_gi _ _ _) (fun c1 => ?_) (fun c1 => ?_)
  · replace h := ite_t h c1
    refine j_iconst (v := 0) (D_Hall_isOfAge 19 rfl) rfl ?_
    exact j_zret (D_Hall_isOfAge 20 rfl) rfl (wr_lit rfl) (nz_01 (by decide)) rfl rfl (leafZo h (wr_n (wr_lit rfl)) (by decide))
  · replace h := ite_f h c1
    refine j_iconst (v := 1) (D_Hall_isOfAge 17 rfl) rfl ?_
    refine j_goto (tgt := 34) (D_Hall_isOfAge 18 rfl) rfl ?_
    exact j_zret (D_Hall_isOfAge 20 rfl) rfl (wr_lit rfl) (nz_01 (by decide)) rfl rfl (leafZo h (wr_n (wr_lit rfl)) (by decide))
abbrev M_Descent_firstHeir : MI := (⟨"InquestHall$Descent", "firstHeir", "()I"⟩, prog_2_method_3_code, 2, (some .int))
theorem cw_Descent_firstHeir : Cond.code M_Descent_firstHeir.1 M_Descent_firstHeir.2.1 M_Descent_firstHeir.2.2.1 M_Descent_firstHeir.2.2.2 ∈ TS := mTS (List.mem_of_getElem? (i := 1043) (by decide +kernel)) (by decide +kernel)
def tb_Descent_firstHeir : List (Nat × Instr × Nat) := [(0, .iconst 0, 1), (1, .istore_n 1, 1), (2, .iload_n 1, 1), (3, .aload_n 0, 1), (4, .getfield 27, 3), (7, .getfield 31, 3), (10, .if_icmp .ge 25, 3), (13, .aload_n 0, 1), (14, .getfield 11, 3), (17, .bipush 32, 2), (19, .iaload, 1), (20, .iconst 1, 1), (21, .iload_n 1, 1), (22, .ishl, 1), (23, .iand, 1), (24, .ifCond .eq 5, 3), (27, .iload_n 1, 1), (28, .ireturn, 1), (29, .iinc 1 1, 3), (32, .goto (-30), 3), (35, .iconst (-1), 1), (36, .ireturn, 1)]
theorem D_Descent_firstHeir (i : Nat) {pc len : Nat} {ins : Instr} (hi : tb_Descent_firstHeir[i]? = some (pc, ins, len)) : decode M_Descent_firstHeir.2.1 pc = .ok (ins, len) := dec_of (by decide +kernel) i hi
def f_Descent_firstHeir_L2 (G : GS) : Nat → Int → Option (Int)
  | 0, _ => none
  | n + 1, x1 =>
    if gi G 1 7 ≤ x1 then
      some (-1)
    else
      if bAnd (gi G 31 32) (bShl 1 x1) = 0 then
        f_Descent_firstHeir_L2 G n (wr (x1 + 1))
      else
        some x1
theorem s_Descent_firstHeir_L2 {X : XT} {G : GS} {r : Int} : ∀ (n : Nat) {x1 : Int}, wr x1 = x1 → f_Descent_firstHeir_L2 G n x1 = some r → J X true 6 0 0 M_Descent_firstHeir (Ri r G) NC 0 0 2 [(0, rf X 30), (1, vi x1)] [] G := by
  intro n
  induction n with
  | zero =>
    intro x1 hx1 h
    exact none_some h
  | succ n ih =>
    intro x1 hx1 h
    rw [f_Descent_firstHeir_L2] at h
    refine j_iloadn (k := 1) (D_Descent_firstHeir 2 rfl) rfl rfl ?_
    refine j_aloadn (k := 0) (D_Descent_firstHeir 3 rfl) rfl rfl ?_
    refine j_getR rfl fa_Descent_27 kd_30 lc_30 (by decide) rfl fx_30_0 (by decide) (D_Descent_firstHeir 4 rfl) ?_
    refine j_getI rfl fa_Descent_31 kd_1 lc_1 (by decide) rfl (D_Descent_firstHeir 5 rfl) ?_
    refine j_ic_ge (tgt := 35) (D_Descent_firstHeir 6 rfl) rfl (hx1) (wr_gi _ _ _) (fun c1 => ?_) (fun c1 => ?_)
    · replace h := ite_t h c1
      refine j_iconst (v := (-1)) (D_Descent_firstHeir 20 rfl) rfl ?_
      exact j_iret (D_Descent_firstHeir 21 rfl) rfl (wr_lit rfl) rfl rfl (leafIo h (wr_n (wr_lit rfl)))
    · replace h := ite_f h c1
      refine j_aloadn (k := 0) (D_Descent_firstHeir 7 rfl) rfl rfl ?_
      refine j_getR rfl fa_Descent_11 kd_30 lc_30 (by decide) rfl fx_30_4 (by decide) (D_Descent_firstHeir 8 rfl) ?_
      refine j_bipush (v := 32) (D_Descent_firstHeir 9 rfl) rfl ?_
      refine j_iald (NI := 33) (D_Descent_firstHeir 10 rfl) kd_31 lc_31 (wr_lit rfl) rfl (by decide) (by decide) ?_
      refine j_iconst (v := 1) (D_Descent_firstHeir 11 rfl) rfl ?_
      refine j_iloadn (k := 1) (D_Descent_firstHeir 12 rfl) rfl rfl ?_
      refine j_ishl (D_Descent_firstHeir 13 rfl) ?_
      refine j_iand (D_Descent_firstHeir 14 rfl) ?_
      refine j_if_eq (tgt := 29) (D_Descent_firstHeir 15 rfl) rfl (wr_bAnd _ _) (fun c2 => ?_) (fun c2 => ?_)
      · replace h := ite_t h c2
        refine j_iinc (k := 1) (L' := [(1, vi (wr (x1 + 1))), (0, rf X 30)]) (D_Descent_firstHeir 18 rfl) rfl rfl (by decide) rfl ?_
        refine j_goto (tgt := 2) (D_Descent_firstHeir 19 rfl) rfl ?_
        refine j_loc [1, 0] rfl ?_
        exact ih (wr_wr _) h
      · replace h := ite_f h c2
        refine j_iloadn (k := 1) (D_Descent_firstHeir 16 rfl) rfl rfl ?_
        exact j_iret (D_Descent_firstHeir 17 rfl) rfl (hx1) rfl rfl (leafIo h (wr_n (hx1)))
def f_Descent_firstHeir (G : GS) : Option (Int) :=
  f_Descent_firstHeir_L2 G FU 0
theorem c_Descent_firstHeir {X : XT} {G : GS} {r : Int} (h : f_Descent_firstHeir G = some r) : Call X true 6 0 0 M_Descent_firstHeir [rf X 30] NC G (Ri r G) := by
  refine Call_of_J cw_Descent_firstHeir (by decide +kernel) (Nat.le_of_ble_eq_true rfl) ?_
  unfold f_Descent_firstHeir at h
  show J X true 6 0 0 M_Descent_firstHeir (Ri r G) NC 0 0 0 [(0, rf X 30)] [] G
  refine j_iconst (v := 0) (D_Descent_firstHeir 0 rfl) rfl ?_
  refine j_istoren (L' := [(1, vi 0), (0, rf X 30)]) (D_Descent_firstHeir 1 rfl) rfl (wr_lit rfl) (by decide) rfl ?_
  refine j_loc [1, 0] rfl ?_
  exact s_Descent_firstHeir_L2 FU (wr_lit rfl) h
abbrev M_Lands_acresOf : MI := (⟨"InquestHall$Lands", "acresOf", "(I)I"⟩, prog_4_method_7_code, 4, (some .int))
theorem cw_Lands_acresOf : Cond.code M_Lands_acresOf.1 M_Lands_acresOf.2.1 M_Lands_acresOf.2.2.1 M_Lands_acresOf.2.2.2 ∈ TS := mTS (List.mem_of_getElem? (i := 1052) (by decide +kernel)) (by decide +kernel)
def tb_Lands_acresOf : List (Nat × Instr × Nat) := [(0, .iconst 0, 1), (1, .istore_n 2, 1), (2, .iconst 0, 1), (3, .istore_n 3, 1), (4, .iload_n 3, 1), (5, .bipush 6, 2), (7, .if_icmp .ge 26, 3), (10, .aload_n 0, 1), (11, .getfield 21, 3), (14, .iload_n 1, 1), (15, .bipush 6, 2), (17, .imul, 1), (18, .iload_n 3, 1), (19, .iadd, 1), (20, .iaload, 1), (21, .ifCond .le 6, 3), (24, .iinc 2 1, 3), (27, .iinc 3 1, 3), (30, .goto (-26), 3), (33, .iload_n 2, 1), (34, .ireturn, 1)]
theorem D_Lands_acresOf (i : Nat) {pc len : Nat} {ins : Instr} (hi : tb_Lands_acresOf[i]? = some (pc, ins, len)) : decode M_Lands_acresOf.2.1 pc = .ok (ins, len) := dec_of (by decide +kernel) i hi
def f_Lands_acresOf_L27 (G : GS) (k4 : Int → Int → Int → Option (Int)) (x1 : Int) (x2 : Int) (x3 : Int) : Option (Int) :=
  k4 x1 x2 (wr (x3 + 1))
theorem s_Lands_acresOf_L27 {X : XT} {G : GS} {r : Int} {k4 : Int → Int → Int → Option (Int)} (hk4 : ∀ {x1 : Int} {x2 : Int} {x3 : Int} , wr x1 = x1 → wr x2 = x2 → wr x3 = x3 → k4 x1 x2 x3 = some r → J X true 6 0 0 M_Lands_acresOf (Ri r G) NC 0 0 4 [(0, rf X 9), (1, vi x1), (2, vi x2), (3, vi x3)] [] G) : ∀ {x1 : Int} {x2 : Int} {x3 : Int}, wr x1 = x1 → wr x2 = x2 → wr x3 = x3 → f_Lands_acresOf_L27 G k4 x1 x2 x3 = some r → J X true 6 0 0 M_Lands_acresOf (Ri r G) NC 0 0 27 [(0, rf X 9), (1, vi x1), (2, vi x2), (3, vi x3)] [] G := by
  intro x1 x2 x3 hx1 hx2 hx3 h
  unfold f_Lands_acresOf_L27 at h
  refine j_iinc (k := 3) (L' := [(3, vi (wr (x3 + 1))), (0, rf X 9), (1, vi x1), (2, vi x2)]) (D_Lands_acresOf 17 rfl) rfl rfl (by decide) rfl ?_
  refine j_goto (tgt := 4) (D_Lands_acresOf 18 rfl) rfl ?_
  refine j_loc [1, 2, 3, 0] rfl ?_
  exact hk4 (hx1) (hx2) (wr_wr _) h
def f_Lands_acresOf_L4 (G : GS) : Nat → Int → Int → Int → Option (Int)
  | 0, _, _, _ => none
  | n + 1, x1, x2, x3 =>
    if 6 ≤ x3 then
      some x2
    else
      gd (0 ≤ wr ((x1 * 6) + x3) ∧ wr ((x1 * 6) + x3) < 72) <|
      if gi G 13 (wr ((x1 * 6) + x3)).toNat ≤ 0 then
        f_Lands_acresOf_L27 G (f_Lands_acresOf_L4 G n) x1 x2 x3
      else
        f_Lands_acresOf_L27 G (f_Lands_acresOf_L4 G n) x1 (wr (x2 + 1)) x3
theorem s_Lands_acresOf_L4 {X : XT} {G : GS} {r : Int} : ∀ (n : Nat) {x1 : Int} {x2 : Int} {x3 : Int}, wr x1 = x1 → wr x2 = x2 → wr x3 = x3 → f_Lands_acresOf_L4 G n x1 x2 x3 = some r → J X true 6 0 0 M_Lands_acresOf (Ri r G) NC 0 0 4 [(0, rf X 9), (1, vi x1), (2, vi x2), (3, vi x3)] [] G := by
  intro n
  induction n with
  | zero =>
    intro x1 x2 x3 hx1 hx2 hx3 h
    exact none_some h
  | succ n ih =>
    intro x1 x2 x3 hx1 hx2 hx3 h
    rw [f_Lands_acresOf_L4] at h
    refine j_iloadn (k := 3) (D_Lands_acresOf 4 rfl) rfl rfl ?_
    refine j_bipush (v := 6) (D_Lands_acresOf 5 rfl) rfl ?_
    refine j_ic_ge (tgt := 33) (D_Lands_acresOf 6 rfl) rfl (hx3) (wr_lit rfl) (fun c1 => ?_) (fun c1 => ?_)
    · replace h := ite_t h c1
      refine j_iloadn (k := 2) (D_Lands_acresOf 19 rfl) rfl rfl ?_
      exact j_iret (D_Lands_acresOf 20 rfl) rfl (hx2) rfl rfl (leafIo h (wr_n (hx2)))
    · replace h := ite_f h c1
      refine j_aloadn (k := 0) (D_Lands_acresOf 7 rfl) rfl rfl ?_
      refine j_getR rfl fa_Lands_21 kd_9 lc_9 (by decide) rfl fx_9_3 (by decide) (D_Lands_acresOf 8 rfl) ?_
      refine j_iloadn (k := 1) (D_Lands_acresOf 9 rfl) rfl rfl ?_
      refine j_bipush (v := 6) (D_Lands_acresOf 10 rfl) rfl ?_
      refine j_imul (D_Lands_acresOf 11 rfl) ?_
      refine j_iloadn (k := 3) (D_Lands_acresOf 12 rfl) rfl rfl ?_
      refine j_iadd (D_Lands_acresOf 13 rfl) ?_
      have g1 := gd_c h
      replace h := gd_s h
      refine j_iald (NI := 72) (D_Lands_acresOf 14 rfl) kd_13 lc_13 (rfl) rfl g1.1 g1.2 ?_
      refine j_if_le (tgt := 27) (D_Lands_acresOf 15 rfl) rfl (wr_gi _ _ _) (fun c2 => ?_) (fun c2 => ?_)
      · replace h := ite_t h c2
        refine j_loc [0, 1, 2, 3] rfl ?_
        exact s_Lands_acresOf_L27 ih (hx1) (hx2) (hx3) h
      · replace h := ite_f h c2
        refine j_iinc (k := 2) (L' := [(2, vi (wr (x2 + 1))), (0, rf X 9), (1, vi x1), (3, vi x3)]) (D_Lands_acresOf 16 rfl) rfl rfl (by decide) rfl ?_
        refine j_loc [1, 2, 0, 3] rfl ?_
        exact s_Lands_acresOf_L27 ih (hx1) (wr_wr _) (hx3) h
def f_Lands_acresOf (G : GS) (a1 : Int) : Option (Int) :=
  f_Lands_acresOf_L4 G FU a1 0 0
theorem c_Lands_acresOf {X : XT} {G : GS} {a1 : Int} {r : Int} (ha1 : wr a1 = a1) (h : f_Lands_acresOf G a1 = some r) : Call X true 6 0 0 M_Lands_acresOf [rf X 9, vi a1] NC G (Ri r G) := by
  refine Call_of_J cw_Lands_acresOf (by decide +kernel) (Nat.le_of_ble_eq_true rfl) ?_
  unfold f_Lands_acresOf at h
  show J X true 6 0 0 M_Lands_acresOf (Ri r G) NC 0 0 0 [(0, rf X 9), (1, vi a1)] [] G
  refine j_iconst (v := 0) (D_Lands_acresOf 0 rfl) rfl ?_
  refine j_istoren (L' := [(2, vi 0), (0, rf X 9), (1, vi a1)]) (D_Lands_acresOf 1 rfl) rfl (wr_lit rfl) (by decide) rfl ?_
  refine j_iconst (v := 0) (D_Lands_acresOf 2 rfl) rfl ?_
  refine j_istoren (L' := [(3, vi 0), (2, vi 0), (0, rf X 9), (1, vi a1)]) (D_Lands_acresOf 3 rfl) rfl (wr_lit rfl) (by decide) rfl ?_
  refine j_loc [2, 3, 1, 0] rfl ?_
  exact s_Lands_acresOf_L4 FU (ha1) (wr_lit rfl) (wr_lit rfl) h
abbrev M_Hall_ask : MI := (⟨"InquestHall", "ask", "(III)V"⟩, prog_1_method_47_code, 5, none)
theorem cw_Hall_ask : Cond.code M_Hall_ask.1 M_Hall_ask.2.1 M_Hall_ask.2.2.1 M_Hall_ask.2.2.2 ∈ TS := mTS (List.mem_of_getElem? (i := 1047) (by decide +kernel)) (by decide +kernel)
theorem fa_Hall_67 : FA "InquestHall" 67 0 7 true (.object "InquestHall$Reckoner") := ⟨_, _, _, _, ok_Hall, by decide, mTS (List.mem_of_getElem? (i := 599) (by decide +kernel)) (by decide +kernel), rfl, rfl⟩
theorem fx_0_7 {G : GS} (w : WF true NC G) : G.2.2 0 7 = 35 := w.2 rfl (0, 7, 35) (by decide)
theorem fa_Hall_395 : FA "InquestHall" 395 8 0 true (.array .int) := ⟨_, _, _, _, ok_Reckoner, by decide, mTS (List.mem_of_getElem? (i := 459) (by decide +kernel)) (by decide +kernel), rfl, rfl⟩
theorem kd_35 : kd 35 = (8 + 5, 5) := rfl
theorem lc_35 : 35 < NC := by decide
theorem fx_35_0 {G : GS} (w : WF true NC G) : G.2.2 35 0 = 36 := w.2 rfl (35, 0, 36) (by decide)
theorem lk_Hall_260 : Cond.methodLink "InquestHall" 260 M_Lands_worthOf.1 ∈ TS := mTS (List.mem_of_getElem? (i := 1048) (by decide +kernel)) (by decide +kernel)
theorem kd_36 : kd 36 = (0, 7) := rfl
theorem lc_36 : 36 < NC := by decide
theorem lk_Hall_398 : Cond.methodLink "InquestHall" 398 M_Lands_acresOf.1 ∈ TS := mTS (List.mem_of_getElem? (i := 1049) (by decide +kernel)) (by decide +kernel)
theorem mok_Lands_acresOf : MOK M_Lands_acresOf 1 := ⟨mTS (List.mem_of_getElem? (i := 1050) (by decide +kernel)) (by decide +kernel), mTS (List.mem_of_getElem? (i := 1051) (by decide +kernel)) (by decide +kernel), mTS (List.mem_of_getElem? (i := 124) (by decide +kernel)) (by decide +kernel), cw_Lands_acresOf, ⟨by decide, by decide, by decide +kernel⟩, by decide +kernel, by decide⟩
theorem lk_Hall_249 : Cond.methodLink "InquestHall" 249 Lib.Math.max.name ∈ TS := mTS (List.mem_of_getElem? (i := 1053) (by decide +kernel)) (by decide +kernel)
theorem ct_Hall_401 : Cond.constantLong "InquestHall" 401 (100 : Int64) ∈ TS := mTS (List.mem_of_getElem? (i := 1054) (by decide +kernel)) (by decide +kernel)
theorem lk_Hall_379 : Cond.methodLink "InquestHall" 379 Lib.MathLoose.max_long.x ∈ TS := mTS (List.mem_of_getElem? (i := 1055) (by decide +kernel)) (by decide +kernel)
def tb_Hall_ask : List (Nat × Instr × Nat) := [(0, .aload_n 0, 1), (1, .getfield 67, 3), (4, .getfield 395, 3), (7, .astore 4, 2), (9, .aload 4, 2), (11, .iconst 0, 1), (12, .aload_n 0, 1), (13, .getfield 19, 3), (16, .iload_n 2, 1), (17, .invokevirtual 260, 3), (20, .iastore, 1), (21, .aload 4, 2), (23, .iconst 1, 1), (24, .aload_n 0, 1), (25, .getfield 19, 3), (28, .iload_n 2, 1), (29, .invokevirtual 398, 3), (32, .iastore, 1), (33, .aload 4, 2), (35, .iconst 2, 1), (36, .aload_n 0, 1), (37, .getfield 19, 3), (40, .getfield 352, 3), (43, .iload_n 2, 1), (44, .iaload, 1), (45, .iastore, 1), (46, .aload 4, 2), (48, .iconst 3, 1), (49, .aload_n 0, 1), (50, .getfield 19, 3), (53, .getfield 358, 3), (56, .iload_n 2, 1), (57, .iaload, 1), (58, .iastore, 1), (59, .aload 4, 2), (61, .iconst 4, 1), (62, .iconst 0, 1), (63, .iastore, 1), (64, .aload 4, 2), (66, .iconst 5, 1), (67, .aload_n 0, 1), (68, .getfield 60, 3), (71, .invokevirtual 194, 3), (74, .invokestatic 198, 3), (77, .iastore, 1), (78, .aload 4, 2), (80, .bipush 6, 2), (82, .iconst 0, 1), (83, .iastore, 1), (84, .iload_n 3, 1), (85, .iconst (-1), 1), (86, .if_icmp .eq 63, 3), (89, .aload 4, 2), (91, .iconst 4, 1), (92, .iconst 0, 1), (93, .aload_n 0, 1), (94, .getfield 12, 3), (97, .getfield 131, 3), (100, .iload_n 1, 1), (101, .iaload, 1), (102, .aload_n 0, 1), (103, .getfield 12, 3), (106, .getfield 144, 3), (109, .iload_n 3, 1), (110, .iaload, 1), (111, .isub, 1), (112, .invokestatic 249, 3), (115, .sipush 360, 3), (118, .idiv, 1), (119, .iastore, 1), (120, .aload 4, 2), (122, .bipush 6, 2), (124, .ldc2_w 401, 3), (127, .aload_n 0, 1), (128, .getfield 60, 3), (131, .invokevirtual 209, 3), (134, .lmul, 1), (135, .lconst 1, 1), (136, .aload_n 0, 1), (137, .getfield 60, 3), (140, .invokevirtual 213, 3), (143, .invokestatic 379, 3), (146, .ldiv, 1), (147, .l2i, 1), (148, .iastore, 1), (149, .return_, 1)]
theorem D_Hall_ask (i : Nat) {pc len : Nat} {ins : Instr} (hi : tb_Hall_ask[i]? = some (pc, ins, len)) : decode M_Hall_ask.2.1 pc = .ok (ins, len) := dec_of (by decide +kernel) i hi
def f_Hall_ask (G : GS) (a1 : Int) (a2 : Int) (a3 : Int) : Option (GS) :=
  (f_Lands_worthOf G a2).bind fun q1 =>
  wG (si G 36 0 q1) fun G1 =>
  (f_Lands_acresOf G1 a2).bind fun q2 =>
  wG (si G1 36 1 q2) fun G2 =>
  gd (0 ≤ a2 ∧ a2 < 12) <|
  wG (si G2 36 2 (gi G2 10 a2.toNat)) fun G3 =>
  gd (0 ≤ a2 ∧ a2 < 12) <|
  wG (si G3 36 3 (gi G3 11 a2.toNat)) fun G4 =>
  wG (si G4 36 4 0) fun G5 =>
  (f_Descent_heirSet G5).bind fun q3 =>
  (f_Integer_bitCount G5 q3).bind fun q4 =>
  wG (si G5 36 5 q4) fun G6 =>
  wG (si G6 36 6 0) fun G7 =>
  if a3 = (-1) then
    some G7
  else
    gd (0 ≤ a1 ∧ a1 < 32) <|
    gd (0 ≤ a3 ∧ a3 < 32) <|
    wG (si G7 36 4 (dv (max 0 (wr ((gi G7 7 a1.toNat) - (gi G7 6 a3.toNat)))) 360)) fun G8 =>
    (f_Descent_partAbove G8).bind fun q5 =>
    (f_Descent_partBelow G8).bind fun q6 =>
    gd (¬ max 1 q6 = 0) <|
    wG (si G8 36 6 (ldv (100 * q5) (max 1 q6))) fun G9 =>
    some G9
theorem c_Hall_ask {X : XT} {G : GS} {a1 : Int} {a2 : Int} {a3 : Int} {r : GS} (ha1 : wr a1 = a1) (ha2 : wr a2 = a2) (ha3 : wr a3 = a3) (h : f_Hall_ask G a1 a2 a3 = some r) : Call X true 9 0 0 M_Hall_ask [rf X 0, vi a1, vi a2, vi a3] NC G (Rv r) := by
  refine Call_of_J cw_Hall_ask (by decide +kernel) (Nat.le_of_ble_eq_true rfl) ?_
  unfold f_Hall_ask at h
  show J X true 9 0 0 M_Hall_ask (Rv r) NC 0 0 0 [(0, rf X 0), (1, vi a1), (2, vi a2), (3, vi a3)] [] G
  refine j_aloadn (k := 0) (D_Hall_ask 0 rfl) rfl rfl ?_
  refine j_getR rfl fa_Hall_67 kd_0 lc_0 (by decide) rfl fx_0_7 (by decide) (D_Hall_ask 1 rfl) ?_
  refine j_getR rfl fa_Hall_395 kd_35 lc_35 (by decide) rfl fx_35_0 (by decide) (D_Hall_ask 2 rfl) ?_
  refine j_astore (L' := [(4, rf X 36), (0, rf X 0), (1, vi a1), (2, vi a2), (3, vi a3)]) (D_Hall_ask 3 rfl) (by decide) rfl ?_
  refine j_aload (k := 0) (D_Hall_ask 4 rfl) rfl ?_
  refine j_iconst (v := 0) (D_Hall_ask 5 rfl) rfl ?_
  refine j_aloadn (k := 1) (D_Hall_ask 6 rfl) rfl rfl ?_
  refine j_getR rfl fa_Hall_19 kd_0 lc_0 (by decide) rfl fx_0_1 (by decide) (D_Hall_ask 7 rfl) ?_
  refine j_iloadn (k := 3) (D_Hall_ask 8 rfl) rfl rfl ?_
  obtain ⟨q1, e1, h⟩ := Option.bind_eq_some_iff.mp h
  refine j_cVi (c_Lands_worthOf (ha2) e1) rfl lk_Hall_260 mok_Lands_worthOf kd_9 lc_9 rfl (by decide) rfl rfl (Nat.le_of_ble_eq_true rfl) (D_Hall_ask 9 rfl) (fun w1 => ?_)
  refine j_iast (NI := 7) (D_Hall_ask 10 rfl) kd_36 lc_36 (wr_lit rfl) rfl (by decide) (by decide) ?_
  refine j_gen (fun G1 e2 => ?_)
  replace h := wG_at h e2
  refine j_aload (k := 0) (D_Hall_ask 11 rfl) rfl ?_
  refine j_iconst (v := 1) (D_Hall_ask 12 rfl) rfl ?_
  refine j_aloadn (k := 1) (D_Hall_ask 13 rfl) rfl rfl ?_
  refine j_getR rfl fa_Hall_19 kd_0 lc_0 (by decide) rfl fx_0_1 (by decide) (D_Hall_ask 14 rfl) ?_
  refine j_iloadn (k := 3) (D_Hall_ask 15 rfl) rfl rfl ?_
  obtain ⟨q2, e3, h⟩ := Option.bind_eq_some_iff.mp h
  refine j_cVi (c_Lands_acresOf (ha2) e3) rfl lk_Hall_398 mok_Lands_acresOf kd_9 lc_9 rfl (by decide) rfl rfl (Nat.le_of_ble_eq_true rfl) (D_Hall_ask 16 rfl) (fun w2 => ?_)
  refine j_iast (NI := 7) (D_Hall_ask 17 rfl) kd_36 lc_36 (wr_lit rfl) rfl (by decide) (by decide) ?_
  refine j_gen (fun G2 e4 => ?_)
  replace h := wG_at h e4
  refine j_aload (k := 0) (D_Hall_ask 18 rfl) rfl ?_
  refine j_iconst (v := 2) (D_Hall_ask 19 rfl) rfl ?_
  refine j_aloadn (k := 1) (D_Hall_ask 20 rfl) rfl rfl ?_
  refine j_getR rfl fa_Hall_19 kd_0 lc_0 (by decide) rfl fx_0_1 (by decide) (D_Hall_ask 21 rfl) ?_
  refine j_getR rfl fa_Hall_352 kd_9 lc_9 (by decide) rfl fx_9_0 (by decide) (D_Hall_ask 22 rfl) ?_
  refine j_iloadn (k := 3) (D_Hall_ask 23 rfl) rfl rfl ?_
  have g1 := gd_c h
  replace h := gd_s h
  refine j_iald (NI := 12) (D_Hall_ask 24 rfl) kd_10 lc_10 (ha2) rfl g1.1 g1.2 ?_
  refine j_iast (NI := 7) (D_Hall_ask 25 rfl) kd_36 lc_36 (wr_lit rfl) rfl (by decide) (by decide) ?_
  refine j_gen (fun G3 e5 => ?_)
  replace h := wG_at h e5
  refine j_aload (k := 0) (D_Hall_ask 26 rfl) rfl ?_
  refine j_iconst (v := 3) (D_Hall_ask 27 rfl) rfl ?_
  refine j_aloadn (k := 1) (D_Hall_ask 28 rfl) rfl rfl ?_
  refine j_getR rfl fa_Hall_19 kd_0 lc_0 (by decide) rfl fx_0_1 (by decide) (D_Hall_ask 29 rfl) ?_
  refine j_getR rfl fa_Hall_358 kd_9 lc_9 (by decide) rfl fx_9_1 (by decide) (D_Hall_ask 30 rfl) ?_
  refine j_iloadn (k := 3) (D_Hall_ask 31 rfl) rfl rfl ?_
  have g2 := gd_c h
  replace h := gd_s h
  refine j_iald (NI := 12) (D_Hall_ask 32 rfl) kd_11 lc_11 (ha2) rfl g2.1 g2.2 ?_
  refine j_iast (NI := 7) (D_Hall_ask 33 rfl) kd_36 lc_36 (wr_lit rfl) rfl (by decide) (by decide) ?_
  refine j_gen (fun G4 e6 => ?_)
  replace h := wG_at h e6
  refine j_aload (k := 0) (D_Hall_ask 34 rfl) rfl ?_
  refine j_iconst (v := 4) (D_Hall_ask 35 rfl) rfl ?_
  refine j_iconst (v := 0) (D_Hall_ask 36 rfl) rfl ?_
  refine j_iast (NI := 7) (D_Hall_ask 37 rfl) kd_36 lc_36 (wr_lit rfl) rfl (by decide) (by decide) ?_
  refine j_gen (fun G5 e7 => ?_)
  replace h := wG_at h e7
  refine j_aload (k := 0) (D_Hall_ask 38 rfl) rfl ?_
  refine j_iconst (v := 5) (D_Hall_ask 39 rfl) rfl ?_
  refine j_aloadn (k := 1) (D_Hall_ask 40 rfl) rfl rfl ?_
  refine j_getR rfl fa_Hall_60 kd_0 lc_0 (by decide) rfl fx_0_6 (by decide) (D_Hall_ask 41 rfl) ?_
  obtain ⟨q3, e8, h⟩ := Option.bind_eq_some_iff.mp h
  refine j_cVi (c_Descent_heirSet e8) rfl lk_Hall_194 mok_Descent_heirSet kd_30 lc_30 rfl (by decide) rfl rfl (Nat.le_of_ble_eq_true rfl) (D_Hall_ask 42 rfl) (fun w3 => ?_)
  obtain ⟨q4, e9, h⟩ := Option.bind_eq_some_iff.mp h
  refine j_cSi (c_Integer_bitCount (w3) e9) rfl lk_Hall_198 sok_Integer_bitCount (by decide) rfl rfl (Nat.le_of_ble_eq_true rfl) (D_Hall_ask 43 rfl) (fun w4 => ?_)
  refine j_iast (NI := 7) (D_Hall_ask 44 rfl) kd_36 lc_36 (wr_lit rfl) rfl (by decide) (by decide) ?_
  refine j_gen (fun G6 e10 => ?_)
  replace h := wG_at h e10
  refine j_aload (k := 0) (D_Hall_ask 45 rfl) rfl ?_
  refine j_bipush (v := 6) (D_Hall_ask 46 rfl) rfl ?_
  refine j_iconst (v := 0) (D_Hall_ask 47 rfl) rfl ?_
  refine j_iast (NI := 7) (D_Hall_ask 48 rfl) kd_36 lc_36 (wr_lit rfl) rfl (by decide) (by decide) ?_
  refine j_gen (fun G7 e11 => ?_)
  replace h := wG_at h e11
  refine j_iloadn (k := 4) (D_Hall_ask 49 rfl) rfl rfl ?_
  refine j_iconst (v := (-1)) (D_Hall_ask 50 rfl) rfl ?_
  refine j_ic_eq (tgt := 149) (D_Hall_ask 51 rfl) rfl (ha3) (wr_lit rfl) (fun c1 => ?_) (fun c1 => ?_)
  · replace h := ite_t h c1
    exact j_vret (D_Hall_ask 85 rfl) rfl rfl rfl (leafV h)
  · replace h := ite_f h c1
    refine j_aload (k := 0) (D_Hall_ask 52 rfl) rfl ?_
    refine j_iconst (v := 4) (D_Hall_ask 53 rfl) rfl ?_
    refine j_iconst (v := 0) (D_Hall_ask 54 rfl) rfl ?_
    refine j_aloadn (k := 1) (D_Hall_ask 55 rfl) rfl rfl ?_
    refine j_getR rfl fa_Hall_12 kd_0 lc_0 (by decide) rfl fx_0_0 (by decide) (D_Hall_ask 56 rfl) ?_
    refine j_getR rfl fa_Hall_131 kd_1 lc_1 (by decide) rfl fx_1_5 (by decide) (D_Hall_ask 57 rfl) ?_
    refine j_iloadn (k := 2) (D_Hall_ask 58 rfl) rfl rfl ?_
    have g3 := gd_c h
    replace h := gd_s h
    refine j_iald (NI := 32) (D_Hall_ask 59 rfl) kd_7 lc_7 (ha1) rfl g3.1 g3.2 ?_
    refine j_aloadn (k := 1) (D_Hall_ask 60 rfl) rfl rfl ?_
    refine j_getR rfl fa_Hall_12 kd_0 lc_0 (by decide) rfl fx_0_0 (by decide) (D_Hall_ask 61 rfl) ?_
    refine j_getR rfl fa_Hall_144 kd_1 lc_1 (by decide) rfl fx_1_4 (by decide) (D_Hall_ask 62 rfl) ?_
    refine j_iloadn (k := 4) (D_Hall_ask 63 rfl) rfl rfl ?_
    have g4 := gd_c h
    replace h := gd_s h
    refine j_iald (NI := 32) (D_Hall_ask 64 rfl) kd_6 lc_6 (ha3) rfl g4.1 g4.2 ?_
    refine j_isub (D_Hall_ask 65 rfl) ?_
    refine j_mmax (wr_lit rfl) (rfl) rfl lk_Hall_249 (by decide) (Nat.le_of_ble_eq_true rfl) (D_Hall_ask 66 rfl) ?_
    refine j_sipush (v := 360) (D_Hall_ask 67 rfl) rfl ?_
    refine j_idiv (D_Hall_ask 68 rfl) (wr_lit rfl) (by decide) ?_
    refine j_iast (NI := 7) (D_Hall_ask 69 rfl) kd_36 lc_36 (wr_lit rfl) rfl (by decide) (by decide) ?_
    refine j_gen (fun G8 e12 => ?_)
    replace h := wG_at h e12
    refine j_aload (k := 0) (D_Hall_ask 70 rfl) rfl ?_
    refine j_bipush (v := 6) (D_Hall_ask 71 rfl) rfl ?_
    refine j_ldc2 (v := 100) rfl ct_Hall_401 (by decide) (D_Hall_ask 72 rfl) ?_
    refine j_aloadn (k := 1) (D_Hall_ask 73 rfl) rfl rfl ?_
    refine j_getR rfl fa_Hall_60 kd_0 lc_0 (by decide) rfl fx_0_6 (by decide) (D_Hall_ask 74 rfl) ?_
    obtain ⟨q5, e13, h⟩ := Option.bind_eq_some_iff.mp h
    refine j_cVl (c_Descent_partAbove e13) rfl lk_Hall_209 mok_Descent_partAbove kd_30 lc_30 rfl (by decide) rfl rfl (Nat.le_of_ble_eq_true rfl) (D_Hall_ask 75 rfl) (fun w5 => ?_)
    refine j_lmul (D_Hall_ask 76 rfl) ?_
    refine j_lconst (v := 1) (D_Hall_ask 77 rfl) rfl ?_
    refine j_aloadn (k := 1) (D_Hall_ask 78 rfl) rfl rfl ?_
    refine j_getR rfl fa_Hall_60 kd_0 lc_0 (by decide) rfl fx_0_6 (by decide) (D_Hall_ask 79 rfl) ?_
    obtain ⟨q6, e14, h⟩ := Option.bind_eq_some_iff.mp h
    refine j_cVl (c_Descent_partBelow e14) rfl lk_Hall_213 mok_Descent_partBelow kd_30 lc_30 rfl (by decide) rfl rfl (Nat.le_of_ble_eq_true rfl) (D_Hall_ask 80 rfl) (fun w6 => ?_)
    refine j_mmaxl (wl_lit rfl) (w6) rfl lk_Hall_379 (by decide) (Nat.le_of_ble_eq_true rfl) (D_Hall_ask 81 rfl) ?_
    have g5 := gd_c h
    replace h := gd_s h
    refine j_ldiv (D_Hall_ask 82 rfl) (wl_max (wl_n (wl_lit rfl)) (wl_n (w6))) g5 ?_
    refine j_l2i (D_Hall_ask 83 rfl) ?_
    refine j_iast (NI := 7) (D_Hall_ask 84 rfl) kd_36 lc_36 (wr_lit rfl) rfl (by decide) (by decide) ?_
    refine j_gen (fun G9 e15 => ?_)
    replace h := wG_at h e15
    exact j_vret (D_Hall_ask 85 rfl) rfl rfl rfl (leafV h)
abbrev M_Reckoner_push : MI := (⟨"InquestHall$Reckoner", "push", "(I)V"⟩, prog_9_method_5_code, 2, none)
theorem cw_Reckoner_push : Cond.code M_Reckoner_push.1 M_Reckoner_push.2.1 M_Reckoner_push.2.2.1 M_Reckoner_push.2.2.2 ∈ TS := mTS (List.mem_of_getElem? (i := 1063) (by decide +kernel)) (by decide +kernel)
theorem fa_Reckoner_18 : FA "InquestHall$Reckoner" 18 8 2 false .int := ⟨_, _, _, _, ok_Reckoner, by decide, mTS (List.mem_of_getElem? (i := 461) (by decide +kernel)) (by decide +kernel), rfl, rfl⟩
theorem fa_Reckoner_15 : FA "InquestHall$Reckoner" 15 8 1 true (.array .int) := ⟨_, _, _, _, ok_Reckoner, by decide, mTS (List.mem_of_getElem? (i := 460) (by decide +kernel)) (by decide +kernel), rfl, rfl⟩
theorem fx_35_1 {G : GS} (w : WF true NC G) : G.2.2 35 1 = 37 := w.2 rfl (35, 1, 37) (by decide)
theorem kd_37 : kd 37 = (0, 64) := rfl
theorem lc_37 : 37 < NC := by decide
def tb_Reckoner_push : List (Nat × Instr × Nat) := [(0, .aload_n 0, 1), (1, .getfield 18, 3), (4, .aload_n 0, 1), (5, .getfield 15, 3), (8, .arraylength, 1), (9, .if_icmp .ge 23, 3), (12, .aload_n 0, 1), (13, .getfield 15, 3), (16, .aload_n 0, 1), (17, .getfield 18, 3), (20, .iload_n 1, 1), (21, .iastore, 1), (22, .aload_n 0, 1), (23, .dup, 1), (24, .getfield 18, 3), (27, .iconst 1, 1), (28, .iadd, 1), (29, .putfield 18, 3), (32, .return_, 1)]
theorem D_Reckoner_push (i : Nat) {pc len : Nat} {ins : Instr} (hi : tb_Reckoner_push[i]? = some (pc, ins, len)) : decode M_Reckoner_push.2.1 pc = .ok (ins, len) := dec_of (by decide +kernel) i hi
def f_Reckoner_push (G : GS) (a1 : Int) : Option (GS) :=
  if 64 ≤ gi G 35 2 then
    some G
  else
    gd (0 ≤ gi G 35 2 ∧ gi G 35 2 < 64) <|
    wG (si G 37 (gi G 35 2).toNat a1) fun G1 =>
    wG (si G1 35 2 ((gi G1 35 2) + 1)) fun G2 =>
    some G2
theorem c_Reckoner_push {X : XT} {G : GS} {a1 : Int} {r : GS} (ha1 : wr a1 = a1) (h : f_Reckoner_push G a1 = some r) : Call X true 6 0 0 M_Reckoner_push [rf X 35, vi a1] NC G (Rv r) := by
  refine Call_of_J cw_Reckoner_push (by decide +kernel) (Nat.le_of_ble_eq_true rfl) ?_
  unfold f_Reckoner_push at h
  show J X true 6 0 0 M_Reckoner_push (Rv r) NC 0 0 0 [(0, rf X 35), (1, vi a1)] [] G
  refine j_aloadn (k := 0) (D_Reckoner_push 0 rfl) rfl rfl ?_
  refine j_getI rfl fa_Reckoner_18 kd_35 lc_35 (by decide) rfl (D_Reckoner_push 1 rfl) ?_
  refine j_aloadn (k := 0) (D_Reckoner_push 2 rfl) rfl rfl ?_
  refine j_getR rfl fa_Reckoner_15 kd_35 lc_35 (by decide) rfl fx_35_1 (by decide) (D_Reckoner_push 3 rfl) ?_
  refine j_alenI (NI := 64) (D_Reckoner_push 4 rfl) kd_37 lc_37 rfl ?_
  refine j_ic_ge (tgt := 32) (D_Reckoner_push 5 rfl) rfl (wr_gi _ _ _) (wr_lit rfl) (fun c1 => ?_) (fun c1 => ?_)
  · replace h := ite_t h c1
    exact j_vret (D_Reckoner_push 18 rfl) rfl rfl rfl (leafV h)
  · replace h := ite_f h c1
    refine j_aloadn (k := 0) (D_Reckoner_push 6 rfl) rfl rfl ?_
    refine j_getR rfl fa_Reckoner_15 kd_35 lc_35 (by decide) rfl fx_35_1 (by decide) (D_Reckoner_push 7 rfl) ?_
    refine j_aloadn (k := 0) (D_Reckoner_push 8 rfl) rfl rfl ?_
    refine j_getI rfl fa_Reckoner_18 kd_35 lc_35 (by decide) rfl (D_Reckoner_push 9 rfl) ?_
    refine j_iloadn (k := 1) (D_Reckoner_push 10 rfl) rfl rfl ?_
    have g1 := gd_c h
    replace h := gd_s h
    refine j_iast (NI := 64) (D_Reckoner_push 11 rfl) kd_37 lc_37 (wr_gi _ _ _) rfl g1.1 g1.2 ?_
    refine j_gen (fun G1 e1 => ?_)
    replace h := wG_at h e1
    refine j_aloadn (k := 0) (D_Reckoner_push 12 rfl) rfl rfl ?_
    refine j_dup (D_Reckoner_push 13 rfl) rfl ?_
    refine j_getI rfl fa_Reckoner_18 kd_35 lc_35 (by decide) rfl (D_Reckoner_push 14 rfl) ?_
    refine j_iconst (v := 1) (D_Reckoner_push 15 rfl) rfl ?_
    refine j_iadd (D_Reckoner_push 16 rfl) ?_
    refine j_putI rfl fa_Reckoner_18 kd_35 lc_35 (by decide) rfl (D_Reckoner_push 17 rfl) ?_
    refine j_gen (fun G2 e2 => ?_)
    replace h := wG_at h e2
    exact j_vret (D_Reckoner_push 18 rfl) rfl rfl rfl (leafV h)
abbrev M_Reckoner_pop : MI := (⟨"InquestHall$Reckoner", "pop", "()I"⟩, prog_9_method_6_code, 1, (some .int))
theorem cw_Reckoner_pop : Cond.code M_Reckoner_pop.1 M_Reckoner_pop.2.1 M_Reckoner_pop.2.2.1 M_Reckoner_pop.2.2.2 ∈ TS := mTS (List.mem_of_getElem? (i := 1071) (by decide +kernel)) (by decide +kernel)
def tb_Reckoner_pop : List (Nat × Instr × Nat) := [(0, .aload_n 0, 1), (1, .getfield 18, 3), (4, .ifCond .gt 5, 3), (7, .iconst 0, 1), (8, .ireturn, 1), (9, .aload_n 0, 1), (10, .dup, 1), (11, .getfield 18, 3), (14, .iconst 1, 1), (15, .isub, 1), (16, .putfield 18, 3), (19, .aload_n 0, 1), (20, .getfield 15, 3), (23, .aload_n 0, 1), (24, .getfield 18, 3), (27, .iaload, 1), (28, .ireturn, 1)]
theorem D_Reckoner_pop (i : Nat) {pc len : Nat} {ins : Instr} (hi : tb_Reckoner_pop[i]? = some (pc, ins, len)) : decode M_Reckoner_pop.2.1 pc = .ok (ins, len) := dec_of (by decide +kernel) i hi
def f_Reckoner_pop (G : GS) : Option (Int × GS) :=
  if 0 < gi G 35 2 then
    wG (si G 35 2 ((gi G 35 2) - 1)) fun G1 =>
    gd (0 ≤ gi G1 35 2 ∧ gi G1 35 2 < 64) <|
    some (gi G1 37 (gi G1 35 2).toNat, G1)
  else
    some (0, G)
theorem c_Reckoner_pop {X : XT} {G : GS} {r : Int × GS} (h : f_Reckoner_pop G = some r) : Call X true 6 0 0 M_Reckoner_pop [rf X 35] NC G (Ri r.1 r.2) := by
  refine Call_of_J cw_Reckoner_pop (by decide +kernel) (Nat.le_of_ble_eq_true rfl) ?_
  unfold f_Reckoner_pop at h
  show J X true 6 0 0 M_Reckoner_pop (Ri r.1 r.2) NC 0 0 0 [(0, rf X 35)] [] G
  refine j_aloadn (k := 0) (D_Reckoner_pop 0 rfl) rfl rfl ?_
  refine j_getI rfl fa_Reckoner_18 kd_35 lc_35 (by decide) rfl (D_Reckoner_pop 1 rfl) ?_
  refine j_if_gt (tgt := 9) (D_Reckoner_pop 2 rfl) rfl (wr_gi _ _ _) (fun c1 => ?_) (fun c1 => ?_)
  · replace h := ite_t h c1
    refine j_aloadn (k := 0) (D_Reckoner_pop 5 rfl) rfl rfl ?_
    refine j_dup (D_Reckoner_pop 6 rfl) rfl ?_
    refine j_getI rfl fa_Reckoner_18 kd_35 lc_35 (by decide) rfl (D_Reckoner_pop 7 rfl) ?_
    refine j_iconst (v := 1) (D_Reckoner_pop 8 rfl) rfl ?_
    refine j_isub (D_Reckoner_pop 9 rfl) ?_
    refine j_putI rfl fa_Reckoner_18 kd_35 lc_35 (by decide) rfl (D_Reckoner_pop 10 rfl) ?_
    refine j_gen (fun G1 e1 => ?_)
    replace h := wG_at h e1
    refine j_aloadn (k := 0) (D_Reckoner_pop 11 rfl) rfl rfl ?_
    refine j_getR rfl fa_Reckoner_15 kd_35 lc_35 (by decide) rfl fx_35_1 (by decide) (D_Reckoner_pop 12 rfl) ?_
    refine j_aloadn (k := 0) (D_Reckoner_pop 13 rfl) rfl rfl ?_
    refine j_getI rfl fa_Reckoner_18 kd_35 lc_35 (by decide) rfl (D_Reckoner_pop 14 rfl) ?_
    have g1 := gd_c h
    replace h := gd_s h
    refine j_iald (NI := 64) (D_Reckoner_pop 15 rfl) kd_37 lc_37 (wr_gi _ _ _) rfl g1.1 g1.2 ?_
    exact j_iret (D_Reckoner_pop 16 rfl) rfl (wr_gi _ _ _) rfl rfl (leafI h (wr_n (wr_gi _ _ _)))
  · replace h := ite_f h c1
    refine j_iconst (v := 0) (D_Reckoner_pop 3 rfl) rfl ?_
    exact j_iret (D_Reckoner_pop 4 rfl) rfl (wr_lit rfl) rfl rfl (leafI h (wr_n (wr_lit rfl)))
abbrev M_Reckoner_joined : MI := (⟨"InquestHall$Reckoner", "joined", "(III)I"⟩, prog_9_method_4_code, 3, (some .int))
theorem cw_Reckoner_joined : Cond.code M_Reckoner_joined.1 M_Reckoner_joined.2.1 M_Reckoner_joined.2.2.1 M_Reckoner_joined.2.2.2 ∈ TS := mTS (List.mem_of_getElem? (i := 1074) (by decide +kernel)) (by decide +kernel)
def tb_Reckoner_joined : List (Nat × Instr × Nat) := [(0, .iload_n 0, 1), (1, .lookupswitch 136 #[(42, 83), (43, 75), (45, 79), (47, 87), (60, 99), (61, 110), (62, 121), (128, 132)], 75), (76, .iload_n 1, 1), (77, .iload_n 2, 1), (78, .iadd, 1), (79, .ireturn, 1), (80, .iload_n 1, 1), (81, .iload_n 2, 1), (82, .isub, 1), (83, .ireturn, 1), (84, .iload_n 1, 1), (85, .iload_n 2, 1), (86, .imul, 1), (87, .ireturn, 1), (88, .iload_n 2, 1), (89, .ifCond .ne 7, 3), (92, .iconst 0, 1), (93, .goto 6, 3), (96, .iload_n 1, 1), (97, .iload_n 2, 1), (98, .idiv, 1), (99, .ireturn, 1), (100, .iload_n 1, 1), (101, .iload_n 2, 1), (102, .if_icmp .ge 7, 3), (105, .iconst 1, 1), (106, .goto 4, 3), (109, .iconst 0, 1), (110, .ireturn, 1), (111, .iload_n 1, 1), (112, .iload_n 2, 1), (113, .if_icmp .ne 7, 3), (116, .iconst 1, 1), (117, .goto 4, 3), (120, .iconst 0, 1), (121, .ireturn, 1), (122, .iload_n 1, 1), (123, .iload_n 2, 1), (124, .if_icmp .le 7, 3), (127, .iconst 1, 1), (128, .goto 4, 3), (131, .iconst 0, 1), (132, .ireturn, 1), (133, .iload_n 1, 1), (134, .iload_n 2, 1), (135, .iand, 1), (136, .ireturn, 1), (137, .iload_n 1, 1), (138, .iload_n 2, 1), (139, .ior, 1), (140, .ireturn, 1)]
theorem D_Reckoner_joined (i : Nat) {pc len : Nat} {ins : Instr} (hi : tb_Reckoner_joined[i]? = some (pc, ins, len)) : decode M_Reckoner_joined.2.1 pc = .ok (ins, len) := dec_of (by decide +kernel) i hi
def f_Reckoner_joined (G : GS) (a0 : Int) (a1 : Int) (a2 : Int) : Option (Int) :=
  if a0 = 42 then
    some (wr (a1 * a2))
  else
    if a0 = 43 then
      some (wr (a1 + a2))
    else
      if a0 = 45 then
        some (wr (a1 - a2))
      else
        if a0 = 47 then
          if a2 = 0 then
            some 0
          else
            gd (¬ a2 = 0) <|
            some (dv a1 a2)
        else
          if a0 = 60 then
            if a2 ≤ a1 then
              some 0
            else
              some 1
          else
            if a0 = 61 then
              if a1 = a2 then
                some 1
              else
                some 0
            else
              if a0 = 62 then
                if a1 ≤ a2 then
                  some 0
                else
                  some 1
              else
                if a0 = 128 then
                  some (bAnd a1 a2)
                else
                  some (bOr a1 a2)
theorem c_Reckoner_joined {X : XT} {G : GS} {a0 : Int} {a1 : Int} {a2 : Int} {r : Int} (ha0 : wr a0 = a0) (ha1 : wr a1 = a1) (ha2 : wr a2 = a2) (h : f_Reckoner_joined G a0 a1 a2 = some r) : Call X true 6 0 0 M_Reckoner_joined [vi a0, vi a1, vi a2] NC G (Ri r G) := by
  refine Call_of_J cw_Reckoner_joined (by decide +kernel) (Nat.le_of_ble_eq_true rfl) ?_
  unfold f_Reckoner_joined at h
  show J X true 6 0 0 M_Reckoner_joined (Ri r G) NC 0 0 0 [(0, vi a0), (1, vi a1), (2, vi a2)] [] G
  refine j_iloadn (k := 0) (D_Reckoner_joined 0 rfl) rfl rfl ?_
  by_cases c1 : a0 = 42
  · replace h := ite_t h c1
    refine j_lIn (tgt := 84) (D_Reckoner_joined 1 rfl) (ha0) c1 rfl rfl rfl ?_
    refine j_iloadn (k := 1) (D_Reckoner_joined 10 rfl) rfl rfl ?_
    refine j_iloadn (k := 2) (D_Reckoner_joined 11 rfl) rfl rfl ?_
    refine j_imul (D_Reckoner_joined 12 rfl) ?_
    exact j_iret (D_Reckoner_joined 13 rfl) rfl (rfl) rfl rfl (leafIo h (wr_n (rfl)))
  · replace h := ite_f h c1
    by_cases c2 : a0 = 43
    · replace h := ite_t h c2
      refine j_lIn (tgt := 76) (D_Reckoner_joined 1 rfl) (ha0) c2 rfl rfl rfl ?_
      refine j_iloadn (k := 1) (D_Reckoner_joined 2 rfl) rfl rfl ?_
      refine j_iloadn (k := 2) (D_Reckoner_joined 3 rfl) rfl rfl ?_
      refine j_iadd (D_Reckoner_joined 4 rfl) ?_
      exact j_iret (D_Reckoner_joined 5 rfl) rfl (rfl) rfl rfl (leafIo h (wr_n (rfl)))
    · replace h := ite_f h c2
      by_cases c3 : a0 = 45
      · replace h := ite_t h c3
        refine j_lIn (tgt := 80) (D_Reckoner_joined 1 rfl) (ha0) c3 rfl rfl rfl ?_
        refine j_iloadn (k := 1) (D_Reckoner_joined 6 rfl) rfl rfl ?_
        refine j_iloadn (k := 2) (D_Reckoner_joined 7 rfl) rfl rfl ?_
        refine j_isub (D_Reckoner_joined 8 rfl) ?_
        exact j_iret (D_Reckoner_joined 9 rfl) rfl (rfl) rfl rfl (leafIo h (wr_n (rfl)))
      · replace h := ite_f h c3
        by_cases c4 : a0 = 47
        · replace h := ite_t h c4
          refine j_lIn (tgt := 88) (D_Reckoner_joined 1 rfl) (ha0) c4 rfl rfl rfl ?_
          refine j_iloadn (k := 2) (D_Reckoner_joined 14 rfl) rfl rfl ?_
          refine j_if_ne (tgt := 96) (D_Reckoner_joined 15 rfl) rfl (ha2) (fun c5 => ?_) (fun c5 => ?_)
          · replace h := ite_f h c5
            refine j_iloadn (k := 1) (D_Reckoner_joined 18 rfl) rfl rfl ?_
            refine j_iloadn (k := 2) (D_Reckoner_joined 19 rfl) rfl rfl ?_
            have g1 := gd_c h
            replace h := gd_s h
            refine j_idiv (D_Reckoner_joined 20 rfl) (ha2) g1 ?_
            exact j_iret (D_Reckoner_joined 21 rfl) rfl (wr_dv _ _) rfl rfl (leafIo h (wr_n (wr_dv _ _)))
          · replace h := ite_t h c5
            refine j_iconst (v := 0) (D_Reckoner_joined 16 rfl) rfl ?_
            refine j_goto (tgt := 99) (D_Reckoner_joined 17 rfl) rfl ?_
            exact j_iret (D_Reckoner_joined 21 rfl) rfl (wr_lit rfl) rfl rfl (leafIo h (wr_n (wr_lit rfl)))
        · replace h := ite_f h c4
          by_cases c6 : a0 = 60
          · replace h := ite_t h c6
            refine j_lIn (tgt := 100) (D_Reckoner_joined 1 rfl) (ha0) c6 rfl rfl rfl ?_
            refine j_iloadn (k := 1) (D_Reckoner_joined 22 rfl) rfl rfl ?_
            refine j_iloadn (k := 2) (D_Reckoner_joined 23 rfl) rfl rfl ?_
            refine j_ic_ge (tgt := 109) (D_Reckoner_joined 24 rfl) rfl (ha1) (ha2) (fun c7 => ?_) (fun c7 => ?_)
            · replace h := ite_t h c7
              refine j_iconst (v := 0) (D_Reckoner_joined 27 rfl) rfl ?_
              exact j_iret (D_Reckoner_joined 28 rfl) rfl (wr_lit rfl) rfl rfl (leafIo h (wr_n (wr_lit rfl)))
            · replace h := ite_f h c7
              refine j_iconst (v := 1) (D_Reckoner_joined 25 rfl) rfl ?_
              refine j_goto (tgt := 110) (D_Reckoner_joined 26 rfl) rfl ?_
              exact j_iret (D_Reckoner_joined 28 rfl) rfl (wr_lit rfl) rfl rfl (leafIo h (wr_n (wr_lit rfl)))
          · replace h := ite_f h c6
            by_cases c8 : a0 = 61
            · replace h := ite_t h c8
              refine j_lIn (tgt := 111) (D_Reckoner_joined 1 rfl) (ha0) c8 rfl rfl rfl ?_
              refine j_iloadn (k := 1) (D_Reckoner_joined 29 rfl) rfl rfl ?_
              refine j_iloadn (k := 2) (D_Reckoner_joined 30 rfl) rfl rfl ?_
              refine j_ic_ne (tgt := 120) (D_Reckoner_joined 31 rfl) rfl (ha1) (ha2) (fun c9 => ?_) (fun c9 => ?_)
              · replace h := ite_f h c9
                refine j_iconst (v := 0) (D_Reckoner_joined 34 rfl) rfl ?_
                exact j_iret (D_Reckoner_joined 35 rfl) rfl (wr_lit rfl) rfl rfl (leafIo h (wr_n (wr_lit rfl)))
              · replace h := ite_t h c9
                refine j_iconst (v := 1) (D_Reckoner_joined 32 rfl) rfl ?_
                refine j_goto (tgt := 121) (D_Reckoner_joined 33 rfl) rfl ?_
                exact j_iret (D_Reckoner_joined 35 rfl) rfl (wr_lit rfl) rfl rfl (leafIo h (wr_n (wr_lit rfl)))
            · replace h := ite_f h c8
              by_cases c10 : a0 = 62
              · replace h := ite_t h c10
                refine j_lIn (tgt := 122) (D_Reckoner_joined 1 rfl) (ha0) c10 rfl rfl rfl ?_
                refine j_iloadn (k := 1) (D_Reckoner_joined 36 rfl) rfl rfl ?_
                refine j_iloadn (k := 2) (D_Reckoner_joined 37 rfl) rfl rfl ?_
                refine j_ic_le (tgt := 131) (D_Reckoner_joined 38 rfl) rfl (ha1) (ha2) (fun c11 => ?_) (fun c11 => ?_)
                · replace h := ite_t h c11
                  refine j_iconst (v := 0) (D_Reckoner_joined 41 rfl) rfl ?_
                  exact j_iret (D_Reckoner_joined 42 rfl) rfl (wr_lit rfl) rfl rfl (leafIo h (wr_n (wr_lit rfl)))
                · replace h := ite_f h c11
                  refine j_iconst (v := 1) (D_Reckoner_joined 39 rfl) rfl ?_
                  refine j_goto (tgt := 132) (D_Reckoner_joined 40 rfl) rfl ?_
                  exact j_iret (D_Reckoner_joined 42 rfl) rfl (wr_lit rfl) rfl rfl (leafIo h (wr_n (wr_lit rfl)))
              · replace h := ite_f h c10
                by_cases c12 : a0 = 128
                · replace h := ite_t h c12
                  refine j_lIn (tgt := 133) (D_Reckoner_joined 1 rfl) (ha0) c12 rfl rfl rfl ?_
                  refine j_iloadn (k := 1) (D_Reckoner_joined 43 rfl) rfl rfl ?_
                  refine j_iloadn (k := 2) (D_Reckoner_joined 44 rfl) rfl rfl ?_
                  refine j_iand (D_Reckoner_joined 45 rfl) ?_
                  exact j_iret (D_Reckoner_joined 46 rfl) rfl (wr_bAnd _ _) rfl rfl (leafIo h (wr_n (wr_bAnd _ _)))
                · replace h := ite_f h c12
                  refine j_lOut (tgt := 137) (D_Reckoner_joined 1 rfl) (ha0) rfl (by simp [c1, c2, c3, c4, c6, c8, c10, c12]) rfl ?_
                  refine j_iloadn (k := 1) (D_Reckoner_joined 47 rfl) rfl rfl ?_
                  refine j_iloadn (k := 2) (D_Reckoner_joined 48 rfl) rfl rfl ?_
                  refine j_ior (D_Reckoner_joined 49 rfl) ?_
                  exact j_iret (D_Reckoner_joined 50 rfl) rfl (wr_bOr _ _) rfl rfl (leafIo h (wr_n (wr_bOr _ _)))
abbrev M_Reckoner_work : MI := (⟨"InquestHall$Reckoner", "work", "(I)V"⟩, prog_9_method_3_code, 4, none)
theorem cw_Reckoner_work : Cond.code M_Reckoner_work.1 M_Reckoner_work.2.1 M_Reckoner_work.2.2.1 M_Reckoner_work.2.2.2 ∈ TS := mTS (List.mem_of_getElem? (i := 1067) (by decide +kernel)) (by decide +kernel)
theorem fa_Reckoner_9 : FA "InquestHall$Reckoner" 9 8 0 true (.array .int) := ⟨_, _, _, _, ok_Reckoner, by decide, mTS (List.mem_of_getElem? (i := 458) (by decide +kernel)) (by decide +kernel), rfl, rfl⟩
theorem lk_Reckoner_37 : Cond.methodLink "InquestHall$Reckoner" 37 M_Reckoner_push.1 ∈ TS := mTS (List.mem_of_getElem? (i := 1060) (by decide +kernel)) (by decide +kernel)
theorem mok_Reckoner_push : MOK M_Reckoner_push 1 := ⟨mTS (List.mem_of_getElem? (i := 1062) (by decide +kernel)) (by decide +kernel), mTS (List.mem_of_getElem? (i := 40) (by decide +kernel)) (by decide +kernel), mTS (List.mem_of_getElem? (i := 135) (by decide +kernel)) (by decide +kernel), cw_Reckoner_push, ⟨by decide, by decide, by decide +kernel⟩, by decide +kernel, by decide⟩
theorem lk_Reckoner_44 : Cond.methodLink "InquestHall$Reckoner" 44 M_Reckoner_pop.1 ∈ TS := mTS (List.mem_of_getElem? (i := 1068) (by decide +kernel)) (by decide +kernel)
theorem mok_Reckoner_pop : MOK M_Reckoner_pop 0 := ⟨mTS (List.mem_of_getElem? (i := 1070) (by decide +kernel)) (by decide +kernel), mTS (List.mem_of_getElem? (i := 42) (by decide +kernel)) (by decide +kernel), mTS (List.mem_of_getElem? (i := 135) (by decide +kernel)) (by decide +kernel), cw_Reckoner_pop, ⟨by decide, by decide, by decide +kernel⟩, by decide +kernel, by decide⟩
theorem lk_Reckoner_48 : Cond.methodLink "InquestHall$Reckoner" 48 M_Reckoner_joined.1 ∈ TS := mTS (List.mem_of_getElem? (i := 1072) (by decide +kernel)) (by decide +kernel)
theorem sok_Reckoner_joined : SOK M_Reckoner_joined 3 := ⟨mTS (List.mem_of_getElem? (i := 1073) (by decide +kernel)) (by decide +kernel), mTS (List.mem_of_getElem? (i := 135) (by decide +kernel)) (by decide +kernel), cw_Reckoner_joined, ⟨by decide, by decide, by decide +kernel⟩, by decide +kernel, by decide⟩
theorem fa_Reckoner_25 : FA "InquestHall$Reckoner" 25 8 4 false .boolean := ⟨_, _, _, _, ok_Reckoner, by decide, mTS (List.mem_of_getElem? (i := 464) (by decide +kernel)) (by decide +kernel), rfl, rfl⟩
theorem fa_Reckoner_22 : FA "InquestHall$Reckoner" 22 8 3 false .int := ⟨_, _, _, _, ok_Reckoner, by decide, mTS (List.mem_of_getElem? (i := 462) (by decide +kernel)) (by decide +kernel), rfl, rfl⟩
def tb_Reckoner_work : List (Nat × Instr × Nat) := [(0, .iload_n 1, 1), (1, .bipush 100, 2), (3, .if_icmp .lt 25, 3), (6, .iload_n 1, 1), (7, .bipush 107, 2), (9, .if_icmp .ge 19, 3), (12, .aload_n 0, 1), (13, .aload_n 0, 1), (14, .getfield 9, 3), (17, .iload_n 1, 1), (18, .bipush 100, 2), (20, .isub, 1), (21, .iaload, 1), (22, .invokevirtual 37, 3), (25, .goto 142, 3), (28, .iload_n 1, 1), (29, .sipush 129, 3), (32, .if_icmp .ne 16, 3), (35, .aload_n 0, 1), (36, .iconst 1, 1), (37, .aload_n 0, 1), (38, .invokevirtual 44, 3), (41, .isub, 1), (42, .invokevirtual 37, 3), (45, .goto 122, 3), (48, .iload_n 1, 1), (49, .bipush 120, 2), (51, .if_icmp .ne 19, 3), (54, .aload_n 0, 1), (55, .dup, 1), (56, .getfield 22, 3), (59, .aload_n 0, 1), (60, .invokevirtual 44, 3), (63, .iadd, 1), (64, .putfield 22, 3), (67, .goto 100, 3), (70, .iload_n 1, 1), (71, .bipush 126, 2), (73, .if_icmp .ne 42, 3), (76, .aload_n 0, 1), (77, .invokevirtual 44, 3), (80, .ifCond .eq 7, 3), (83, .iconst 1, 1), (84, .goto 4, 3), (87, .iconst 0, 1), (88, .istore_n 2, 1), (89, .aload_n 0, 1), (90, .invokevirtual 44, 3), (93, .istore_n 3, 1), (94, .aload_n 0, 1), (95, .dup, 1), (96, .getfield 22, 3), (99, .iload_n 2, 1), (100, .ifCond .eq 7, 3), (103, .iload_n 3, 1), (104, .goto 4, 3), (107, .iconst 0, 1), (108, .iadd, 1), (109, .putfield 22, 3), (112, .goto 55, 3), (115, .iload_n 1, 1), (116, .bipush 114, 2), (118, .if_icmp .ne 29, 3), (121, .aload_n 0, 1), (122, .aload_n 0, 1), (123, .invokevirtual 44, 3), (126, .ifCond .ne 10, 3), (129, .aload_n 0, 1), (130, .getfield 25, 3), (133, .ifCond .eq 7, 3), (136, .iconst 1, 1), (137, .goto 4, 3), (140, .iconst 0, 1), (141, .putfield 25, 3), (144, .goto 23, 3), (147, .aload_n 0, 1), (148, .invokevirtual 44, 3), (151, .istore_n 2, 1), (152, .aload_n 0, 1), (153, .invokevirtual 44, 3), (156, .istore_n 3, 1), (157, .aload_n 0, 1), (158, .iload_n 1, 1), (159, .iload_n 3, 1), (160, .iload_n 2, 1), (161, .invokestatic 48, 3), (164, .invokevirtual 37, 3), (167, .return_, 1)]
theorem D_Reckoner_work (i : Nat) {pc len : Nat} {ins : Instr} (hi : tb_Reckoner_work[i]? = some (pc, ins, len)) : decode M_Reckoner_work.2.1 pc = .ok (ins, len) := dec_of (by decide +kernel) i hi
def f_Reckoner_work_L141 (G : GS) (s0 : Int) : Option (GS) :=
  gd (s0 = 0 ∨ s0 = 1) <|
  wG (si G 35 4 s0) fun G1 =>
  some G1
theorem s_Reckoner_work_L141 {X : XT} {r : GS} : ∀ {G : GS} {s0 : Int}, wr s0 = s0 → f_Reckoner_work_L141 G s0 = some r → J X true 7 0 0 M_Reckoner_work (Rv r) NC 0 0 141 [(0, rf X 35)] [vi s0, rf X 35] G := by
  intro G s0 hs0 h
  unfold f_Reckoner_work_L141 at h
  have g1 := gd_c h
  replace h := gd_s h
  refine j_putZ rfl fa_Reckoner_25 kd_35 lc_35 (by decide) rfl (hs0) g1 (D_Reckoner_work 73 rfl) ?_
  refine j_gen (fun G1 e1 => ?_)
  replace h := wG_at h e1
  refine j_goto (tgt := 167) (D_Reckoner_work 74 rfl) rfl ?_
  exact j_vret (D_Reckoner_work 87 rfl) rfl rfl rfl (leafV h)
def f_Reckoner_work_L136 (G : GS) : Option (GS) :=
  f_Reckoner_work_L141 G 1
theorem s_Reckoner_work_L136 {X : XT} {r : GS} : ∀ {G : GS}, f_Reckoner_work_L136 G = some r → J X true 7 0 0 M_Reckoner_work (Rv r) NC 0 0 136 [(0, rf X 35)] [rf X 35] G := by
  intro G h
  unfold f_Reckoner_work_L136 at h
  refine j_iconst (v := 1) (D_Reckoner_work 70 rfl) rfl ?_
  refine j_goto (tgt := 141) (D_Reckoner_work 71 rfl) rfl ?_
  refine j_loc [0] rfl ?_
  exact s_Reckoner_work_L141 (wr_lit rfl) h
def f_Reckoner_work_L108 (G : GS) (s0 : Int) (s1 : Int) : Option (GS) :=
  wG (si G 35 3 (s1 + s0)) fun G1 =>
  some G1
theorem s_Reckoner_work_L108 {X : XT} {r : GS} : ∀ {G : GS} {s0 : Int} {s1 : Int}, wr s0 = s0 → wr s1 = s1 → f_Reckoner_work_L108 G s0 s1 = some r → J X true 7 0 0 M_Reckoner_work (Rv r) NC 0 0 108 [(0, rf X 35)] [vi s0, vi s1, rf X 35] G := by
  intro G s0 s1 hs0 hs1 h
  unfold f_Reckoner_work_L108 at h
  refine j_iadd (D_Reckoner_work 57 rfl) ?_
  refine j_putI rfl fa_Reckoner_22 kd_35 lc_35 (by decide) rfl (D_Reckoner_work 58 rfl) ?_
  refine j_gen (fun G1 e1 => ?_)
  replace h := wG_at h e1
  refine j_goto (tgt := 167) (D_Reckoner_work 59 rfl) rfl ?_
  exact j_vret (D_Reckoner_work 87 rfl) rfl rfl rfl (leafV h)
def f_Reckoner_work_L88 (G : GS) (s0 : Int) : Option (GS) :=
  (f_Reckoner_pop G).bind fun q1 =>
  if s0 = 0 then
    f_Reckoner_work_L108 q1.2 0 (gi q1.2 35 3)
  else
    f_Reckoner_work_L108 q1.2 q1.1 (gi q1.2 35 3)
theorem s_Reckoner_work_L88 {X : XT} {r : GS} : ∀ {G : GS} {s0 : Int}, wr s0 = s0 → f_Reckoner_work_L88 G s0 = some r → J X true 7 0 0 M_Reckoner_work (Rv r) NC 0 0 88 [(0, rf X 35)] [vi s0] G := by
  intro G s0 hs0 h
  unfold f_Reckoner_work_L88 at h
  refine j_istoren (L' := [(2, vi s0), (0, rf X 35)]) (D_Reckoner_work 45 rfl) rfl (hs0) (by decide) rfl ?_
  refine j_aloadn (k := 1) (D_Reckoner_work 46 rfl) rfl rfl ?_
  obtain ⟨q1, e1, h⟩ := Option.bind_eq_some_iff.mp h
  refine j_cVi (c_Reckoner_pop e1) rfl lk_Reckoner_44 mok_Reckoner_pop kd_35 lc_35 rfl (by decide) rfl rfl (Nat.le_of_ble_eq_true rfl) (D_Reckoner_work 47 rfl) (fun w1 => ?_)
  refine j_istoren (L' := [(3, vi q1.1), (2, vi s0), (0, rf X 35)]) (D_Reckoner_work 48 rfl) rfl (w1) (by decide) rfl ?_
  refine j_aloadn (k := 2) (D_Reckoner_work 49 rfl) rfl rfl ?_
  refine j_dup (D_Reckoner_work 50 rfl) rfl ?_
  refine j_getI rfl fa_Reckoner_22 kd_35 lc_35 (by decide) rfl (D_Reckoner_work 51 rfl) ?_
  refine j_iloadn (k := 1) (D_Reckoner_work 52 rfl) rfl rfl ?_
  refine j_if_eq (tgt := 107) (D_Reckoner_work 53 rfl) rfl (hs0) (fun c1 => ?_) (fun c1 => ?_)
  · replace h := ite_t h c1
    refine j_iconst (v := 0) (D_Reckoner_work 56 rfl) rfl ?_
    refine j_loc [2] rfl ?_
    exact s_Reckoner_work_L108 (wr_lit rfl) (wr_gi _ _ _) h
  · replace h := ite_f h c1
    refine j_iloadn (k := 0) (D_Reckoner_work 54 rfl) rfl rfl ?_
    refine j_goto (tgt := 108) (D_Reckoner_work 55 rfl) rfl ?_
    refine j_loc [2] rfl ?_
    exact s_Reckoner_work_L108 (w1) (wr_gi _ _ _) h
def f_Reckoner_work_L28 (G : GS) (x1 : Int) : Option (GS) :=
  if x1 = 129 then
    (f_Reckoner_pop G).bind fun q8 =>
    (f_Reckoner_push q8.2 (wr (1 - q8.1))).bind fun q9 =>
    some q9
  else
    if x1 = 120 then
      (f_Reckoner_pop G).bind fun q7 =>
      wG (si q7.2 35 3 ((gi G 35 3) + q7.1)) fun G1 =>
      some G1
    else
      if x1 = 126 then
        (f_Reckoner_pop G).bind fun q6 =>
        if q6.1 = 0 then
          f_Reckoner_work_L88 q6.2 0
        else
          f_Reckoner_work_L88 q6.2 1
      else
        if x1 = 114 then
          (f_Reckoner_pop G).bind fun q5 =>
          if q5.1 = 0 then
            if gi q5.2 35 4 = 0 then
              f_Reckoner_work_L141 q5.2 0
            else
              f_Reckoner_work_L136 q5.2
          else
            f_Reckoner_work_L136 q5.2
        else
          (f_Reckoner_pop G).bind fun q1 =>
          (f_Reckoner_pop q1.2).bind fun q2 =>
          (f_Reckoner_joined q2.2 x1 q2.1 q1.1).bind fun q3 =>
          (f_Reckoner_push q2.2 q3).bind fun q4 =>
          some q4
theorem s_Reckoner_work_L28 {X : XT} {r : GS} : ∀ {G : GS} {x1 : Int}, wr x1 = x1 → f_Reckoner_work_L28 G x1 = some r → J X true 7 0 0 M_Reckoner_work (Rv r) NC 0 0 28 [(0, rf X 35), (1, vi x1)] [] G := by
  intro G x1 hx1 h
  unfold f_Reckoner_work_L28 at h
  refine j_iloadn (k := 1) (D_Reckoner_work 15 rfl) rfl rfl ?_
  refine j_sipush (v := 129) (D_Reckoner_work 16 rfl) rfl ?_
  refine j_ic_ne (tgt := 48) (D_Reckoner_work 17 rfl) rfl (hx1) (wr_lit rfl) (fun c1 => ?_) (fun c1 => ?_)
  · replace h := ite_f h c1
    refine j_iloadn (k := 1) (D_Reckoner_work 25 rfl) rfl rfl ?_
    refine j_bipush (v := 120) (D_Reckoner_work 26 rfl) rfl ?_
    refine j_ic_ne (tgt := 70) (D_Reckoner_work 27 rfl) rfl (hx1) (wr_lit rfl) (fun c2 => ?_) (fun c2 => ?_)
    · replace h := ite_f h c2
      refine j_iloadn (k := 1) (D_Reckoner_work 36 rfl) rfl rfl ?_
      refine j_bipush (v := 126) (D_Reckoner_work 37 rfl) rfl ?_
      refine j_ic_ne (tgt := 115) (D_Reckoner_work 38 rfl) rfl (hx1) (wr_lit rfl) (fun c3 => ?_) (fun c3 => ?_)
      · replace h := ite_f h c3
        refine j_iloadn (k := 1) (D_Reckoner_work 60 rfl) rfl rfl ?_
        refine j_bipush (v := 114) (D_Reckoner_work 61 rfl) rfl ?_
        refine j_ic_ne (tgt := 147) (D_Reckoner_work 62 rfl) rfl (hx1) (wr_lit rfl) (fun c4 => ?_) (fun c4 => ?_)
        · replace h := ite_f h c4
          refine j_aloadn (k := 0) (D_Reckoner_work 75 rfl) rfl rfl ?_
          obtain ⟨q1, e1, h⟩ := Option.bind_eq_some_iff.mp h
          refine j_cVi (c_Reckoner_pop e1) rfl lk_Reckoner_44 mok_Reckoner_pop kd_35 lc_35 rfl (by decide) rfl rfl (Nat.le_of_ble_eq_true rfl) (D_Reckoner_work 76 rfl) (fun w1 => ?_)
          refine j_istoren (L' := [(2, vi q1.1), (0, rf X 35), (1, vi x1)]) (D_Reckoner_work 77 rfl) rfl (w1) (by decide) rfl ?_
          refine j_aloadn (k := 1) (D_Reckoner_work 78 rfl) rfl rfl ?_
          obtain ⟨q2, e2, h⟩ := Option.bind_eq_some_iff.mp h
          refine j_cVi (c_Reckoner_pop e2) rfl lk_Reckoner_44 mok_Reckoner_pop kd_35 lc_35 rfl (by decide) rfl rfl (Nat.le_of_ble_eq_true rfl) (D_Reckoner_work 79 rfl) (fun w2 => ?_)
          refine j_istoren (L' := [(3, vi q2.1), (2, vi q1.1), (0, rf X 35), (1, vi x1)]) (D_Reckoner_work 80 rfl) rfl (w2) (by decide) rfl ?_
          refine j_aloadn (k := 2) (D_Reckoner_work 81 rfl) rfl rfl ?_
          refine j_iloadn (k := 3) (D_Reckoner_work 82 rfl) rfl rfl ?_
          refine j_iloadn (k := 0) (D_Reckoner_work 83 rfl) rfl rfl ?_
          refine j_iloadn (k := 1) (D_Reckoner_work 84 rfl) rfl rfl ?_
          obtain ⟨q3, e3, h⟩ := Option.bind_eq_some_iff.mp h
          refine j_cSi (c_Reckoner_joined (hx1) (w2) (w1) e3) rfl lk_Reckoner_48 sok_Reckoner_joined (by decide) rfl rfl (Nat.le_of_ble_eq_true rfl) (D_Reckoner_work 85 rfl) (fun w3 => ?_)
          obtain ⟨q4, e4, h⟩ := Option.bind_eq_some_iff.mp h
          refine j_cVv (c_Reckoner_push (w3) e4) rfl lk_Reckoner_37 mok_Reckoner_push kd_35 lc_35 rfl (by decide) rfl rfl (Nat.le_of_ble_eq_true rfl) (D_Reckoner_work 86 rfl) ?_
          exact j_vret (D_Reckoner_work 87 rfl) rfl rfl rfl (leafV h)
        · replace h := ite_t h c4
          refine j_aloadn (k := 0) (D_Reckoner_work 63 rfl) rfl rfl ?_
          refine j_aloadn (k := 0) (D_Reckoner_work 64 rfl) rfl rfl ?_
          obtain ⟨q5, e5, h⟩ := Option.bind_eq_some_iff.mp h
          refine j_cVi (c_Reckoner_pop e5) rfl lk_Reckoner_44 mok_Reckoner_pop kd_35 lc_35 rfl (by decide) rfl rfl (Nat.le_of_ble_eq_true rfl) (D_Reckoner_work 65 rfl) (fun w4 => ?_)
          refine j_if_ne (tgt := 136) (D_Reckoner_work 66 rfl) rfl (w4) (fun c5 => ?_) (fun c5 => ?_)
          · replace h := ite_f h c5
            refine j_loc [0] rfl ?_
            exact s_Reckoner_work_L136 h
          · replace h := ite_t h c5
            refine j_aloadn (k := 0) (D_Reckoner_work 67 rfl) rfl rfl ?_
            refine j_getI rfl fa_Reckoner_25 kd_35 lc_35 (by decide) rfl (D_Reckoner_work 68 rfl) ?_
            refine j_if_eq (tgt := 140) (D_Reckoner_work 69 rfl) rfl (wr_gi _ _ _) (fun c6 => ?_) (fun c6 => ?_)
            · replace h := ite_t h c6
              refine j_iconst (v := 0) (D_Reckoner_work 72 rfl) rfl ?_
              refine j_loc [0] rfl ?_
              exact s_Reckoner_work_L141 (wr_lit rfl) h
            · replace h := ite_f h c6
              refine j_loc [0] rfl ?_
              exact s_Reckoner_work_L136 h
      · replace h := ite_t h c3
        refine j_aloadn (k := 0) (D_Reckoner_work 39 rfl) rfl rfl ?_
        obtain ⟨q6, e6, h⟩ := Option.bind_eq_some_iff.mp h
        refine j_cVi (c_Reckoner_pop e6) rfl lk_Reckoner_44 mok_Reckoner_pop kd_35 lc_35 rfl (by decide) rfl rfl (Nat.le_of_ble_eq_true rfl) (D_Reckoner_work 40 rfl) (fun w5 => ?_)
        refine j_if_eq (tgt := 87) (D_Reckoner_work 41 rfl) rfl (w5) (fun c7 => ?_) (fun c7 => ?_)
        · replace h := ite_t h c7
          refine j_iconst (v := 0) (D_Reckoner_work 44 rfl) rfl ?_
          refine j_loc [0] rfl ?_
          exact s_Reckoner_work_L88 (wr_lit rfl) h
        · replace h := ite_f h c7
          refine j_iconst (v := 1) (D_Reckoner_work 42 rfl) rfl ?_
          refine j_goto (tgt := 88) (D_Reckoner_work 43 rfl) rfl ?_
          refine j_loc [0] rfl ?_
          exact s_Reckoner_work_L88 (wr_lit rfl) h
    · replace h := ite_t h c2
      refine j_aloadn (k := 0) (D_Reckoner_work 28 rfl) rfl rfl ?_
      refine j_dup (D_Reckoner_work 29 rfl) rfl ?_
      refine j_getI rfl fa_Reckoner_22 kd_35 lc_35 (by decide) rfl (D_Reckoner_work 30 rfl) ?_
      refine j_aloadn (k := 0) (D_Reckoner_work 31 rfl) rfl rfl ?_
      obtain ⟨q7, e7, h⟩ := Option.bind_eq_some_iff.mp h
      refine j_cVi (c_Reckoner_pop e7) rfl lk_Reckoner_44 mok_Reckoner_pop kd_35 lc_35 rfl (by decide) rfl rfl (Nat.le_of_ble_eq_true rfl) (D_Reckoner_work 32 rfl) (fun w6 => ?_)
      refine j_iadd (D_Reckoner_work 33 rfl) ?_
      refine j_putI rfl fa_Reckoner_22 kd_35 lc_35 (by decide) rfl (D_Reckoner_work 34 rfl) ?_
      refine j_gen (fun G1 e8 => ?_)
      replace h := wG_at h e8
      refine j_goto (tgt := 167) (D_Reckoner_work 35 rfl) rfl ?_
      exact j_vret (D_Reckoner_work 87 rfl) rfl rfl rfl (leafV h)
  · replace h := ite_t h c1
    refine j_aloadn (k := 0) (D_Reckoner_work 18 rfl) rfl rfl ?_
    refine j_iconst (v := 1) (D_Reckoner_work 19 rfl) rfl ?_
    refine j_aloadn (k := 0) (D_Reckoner_work 20 rfl) rfl rfl ?_
    obtain ⟨q8, e9, h⟩ := Option.bind_eq_some_iff.mp h
    refine j_cVi (c_Reckoner_pop e9) rfl lk_Reckoner_44 mok_Reckoner_pop kd_35 lc_35 rfl (by decide) rfl rfl (Nat.le_of_ble_eq_true rfl) (D_Reckoner_work 21 rfl) (fun w7 => ?_)
    refine j_isub (D_Reckoner_work 22 rfl) ?_
    refine j_top0 (rfl) ?_
    obtain ⟨q9, e10, h⟩ := Option.bind_eq_some_iff.mp h
    refine j_cVv (c_Reckoner_push (wr_wr _) e10) rfl lk_Reckoner_37 mok_Reckoner_push kd_35 lc_35 rfl (by decide) rfl rfl (Nat.le_of_ble_eq_true rfl) (D_Reckoner_work 23 rfl) ?_
    refine j_goto (tgt := 167) (D_Reckoner_work 24 rfl) rfl ?_
    exact j_vret (D_Reckoner_work 87 rfl) rfl rfl rfl (leafV h)
def f_Reckoner_work (G : GS) (a1 : Int) : Option (GS) :=
  if a1 < 100 then
    f_Reckoner_work_L28 G a1
  else
    if 107 ≤ a1 then
      f_Reckoner_work_L28 G a1
    else
      gd (0 ≤ wr (a1 - 100) ∧ wr (a1 - 100) < 7) <|
      (f_Reckoner_push G (gi G 36 (wr (a1 - 100)).toNat)).bind fun q1 =>
      some q1
theorem c_Reckoner_work {X : XT} {G : GS} {a1 : Int} {r : GS} (ha1 : wr a1 = a1) (h : f_Reckoner_work G a1 = some r) : Call X true 7 0 0 M_Reckoner_work [rf X 35, vi a1] NC G (Rv r) := by
  refine Call_of_J cw_Reckoner_work (by decide +kernel) (Nat.le_of_ble_eq_true rfl) ?_
  unfold f_Reckoner_work at h
  show J X true 7 0 0 M_Reckoner_work (Rv r) NC 0 0 0 [(0, rf X 35), (1, vi a1)] [] G
  refine j_iloadn (k := 1) (D_Reckoner_work 0 rfl) rfl rfl ?_
  refine j_bipush (v := 100) (D_Reckoner_work 1 rfl) rfl ?_
  refine j_ic_lt (tgt := 28) (D_Reckoner_work 2 rfl) rfl (ha1) (wr_lit rfl) (fun c1 => ?_) (fun c1 => ?_)
  · replace h := ite_t h c1
    refine j_loc [0, 1] rfl ?_
    exact s_Reckoner_work_L28 (ha1) h
  · replace h := ite_f h c1
    refine j_iloadn (k := 1) (D_Reckoner_work 3 rfl) rfl rfl ?_
    refine j_bipush (v := 107) (D_Reckoner_work 4 rfl) rfl ?_
    refine j_ic_ge (tgt := 28) (D_Reckoner_work 5 rfl) rfl (ha1) (wr_lit rfl) (fun c2 => ?_) (fun c2 => ?_)
    · replace h := ite_t h c2
      refine j_loc [0, 1] rfl ?_
      exact s_Reckoner_work_L28 (ha1) h
    · replace h := ite_f h c2
      refine j_aloadn (k := 0) (D_Reckoner_work 6 rfl) rfl rfl ?_
      refine j_aloadn (k := 0) (D_Reckoner_work 7 rfl) rfl rfl ?_
      refine j_getR rfl fa_Reckoner_9 kd_35 lc_35 (by decide) rfl fx_35_0 (by decide) (D_Reckoner_work 8 rfl) ?_
      refine j_iloadn (k := 1) (D_Reckoner_work 9 rfl) rfl rfl ?_
      refine j_bipush (v := 100) (D_Reckoner_work 10 rfl) rfl ?_
      refine j_isub (D_Reckoner_work 11 rfl) ?_
      have g1 := gd_c h
      replace h := gd_s h
      refine j_iald (NI := 7) (D_Reckoner_work 12 rfl) kd_36 lc_36 (rfl) rfl g1.1 g1.2 ?_
      obtain ⟨q1, e1, h⟩ := Option.bind_eq_some_iff.mp h
      refine j_cVv (c_Reckoner_push (wr_gi _ _ _) e1) rfl lk_Reckoner_37 mok_Reckoner_push kd_35 lc_35 rfl (by decide) rfl rfl (Nat.le_of_ble_eq_true rfl) (D_Reckoner_work 13 rfl) ?_
      refine j_goto (tgt := 167) (D_Reckoner_work 14 rfl) rfl ?_
      exact j_vret (D_Reckoner_work 87 rfl) rfl rfl rfl (leafV h)
abbrev M_Reckoner_reckon : MI := (⟨"InquestHall$Reckoner", "reckon", "(LInquestHall$Law;)V"⟩, prog_9_method_2_code, 4, none)
theorem cw_Reckoner_reckon : Cond.code M_Reckoner_reckon.1 M_Reckoner_reckon.2.1 M_Reckoner_reckon.2.2.1 M_Reckoner_reckon.2.2.2 ∈ TS := mTS (List.mem_of_getElem? (i := 1059) (by decide +kernel)) (by decide +kernel)
theorem fa_Reckoner_29 : FA "InquestHall$Reckoner" 29 11 9 false .int := ⟨_, _, _, _, ok_Law, by decide, mTS (List.mem_of_getElem? (i := 569) (by decide +kernel)) (by decide +kernel), rfl, rfl⟩
theorem fa_Reckoner_34 : FA "InquestHall$Reckoner" 34 11 8 true (.array .int) := ⟨_, _, _, _, ok_Law, by decide, mTS (List.mem_of_getElem? (i := 568) (by decide +kernel)) (by decide +kernel), rfl, rfl⟩
theorem lk_Reckoner_41 : Cond.methodLink "InquestHall$Reckoner" 41 M_Reckoner_work.1 ∈ TS := mTS (List.mem_of_getElem? (i := 1064) (by decide +kernel)) (by decide +kernel)
theorem mok_Reckoner_work : MOK M_Reckoner_work 1 := ⟨mTS (List.mem_of_getElem? (i := 1066) (by decide +kernel)) (by decide +kernel), mTS (List.mem_of_getElem? (i := 41) (by decide +kernel)) (by decide +kernel), mTS (List.mem_of_getElem? (i := 135) (by decide +kernel)) (by decide +kernel), cw_Reckoner_work, ⟨by decide, by decide, by decide +kernel⟩, by decide +kernel, by decide⟩
def tb_Reckoner_reckon : List (Nat × Instr × Nat) := [(0, .aload_n 0, 1), (1, .iconst 0, 1), (2, .putfield 18, 3), (5, .aload_n 0, 1), (6, .iconst 0, 1), (7, .putfield 22, 3), (10, .aload_n 0, 1), (11, .iconst 0, 1), (12, .putfield 25, 3), (15, .iconst 0, 1), (16, .istore_n 2, 1), (17, .iload_n 2, 1), (18, .aload_n 1, 1), (19, .getfield 29, 3), (22, .if_icmp .ge 34, 3), (25, .aload_n 1, 1), (26, .getfield 34, 3), (29, .iload_n 2, 1), (30, .iaload, 1), (31, .istore_n 3, 1), (32, .iload_n 3, 1), (33, .ifCond .lt 11, 3), (36, .aload_n 0, 1), (37, .iload_n 3, 1), (38, .invokevirtual 37, 3), (41, .goto 9, 3), (44, .aload_n 0, 1), (45, .iload_n 3, 1), (46, .ineg, 1), (47, .invokevirtual 41, 3), (50, .iinc 2 1, 3), (53, .goto (-36), 3), (56, .return_, 1)]
theorem D_Reckoner_reckon (i : Nat) {pc len : Nat} {ins : Instr} (hi : tb_Reckoner_reckon[i]? = some (pc, ins, len)) : decode M_Reckoner_reckon.2.1 pc = .ok (ins, len) := dec_of (by decide +kernel) i hi
def f_Reckoner_reckon_L50 (k17 : GS → Nat → Int → Option (GS)) (G : GS) (x1 : Nat) (x2 : Int) : Option (GS) :=
  k17 G x1 (wr (x2 + 1))
theorem s_Reckoner_reckon_L50 {X : XT} {r : GS} {k17 : GS → Nat → Int → Option (GS)} (hk17 : ∀ {G : GS} {x1 : Nat} {x2 : Int} , lawC x1 = true → wr x2 = x2 → k17 G x1 x2 = some r → J X true 8 0 0 M_Reckoner_reckon (Rv r) NC 0 0 17 [(0, rf X 35), (1, rf X x1), (2, vi x2)] [] G) : ∀ {G : GS} {x1 : Nat} {x2 : Int}, lawC x1 = true → wr x2 = x2 → f_Reckoner_reckon_L50 k17 G x1 x2 = some r → J X true 8 0 0 M_Reckoner_reckon (Rv r) NC 0 0 50 [(0, rf X 35), (1, rf X x1), (2, vi x2)] [] G := by
  intro G x1 x2 hx1 hx2 h
  unfold f_Reckoner_reckon_L50 at h
  refine j_iinc (k := 2) (L' := [(2, vi (wr (x2 + 1))), (0, rf X 35), (1, rf X x1)]) (D_Reckoner_reckon 30 rfl) rfl rfl (by decide) rfl ?_
  refine j_goto (tgt := 17) (D_Reckoner_reckon 31 rfl) rfl ?_
  refine j_loc [1, 2, 0] rfl ?_
  exact hk17 hx1 (wr_wr _) h
def f_Reckoner_reckon_L17 : Nat → GS → Nat → Int → Option (GS)
  | 0, _, _, _ => none
  | n + 1, G, x1, x2 =>
    if gi G x1 9 ≤ x2 then
      some G
    else
      gd (0 ≤ x2 ∧ x2 < 800) <|
      if gi G (x1 + 5) x2.toNat < 0 then
        (f_Reckoner_work G (wr (-(gi G (x1 + 5) x2.toNat)))).bind fun q1 =>
        f_Reckoner_reckon_L50 (f_Reckoner_reckon_L17 n) q1 x1 x2
      else
        (f_Reckoner_push G (gi G (x1 + 5) x2.toNat)).bind fun q2 =>
        f_Reckoner_reckon_L50 (f_Reckoner_reckon_L17 n) q2 x1 x2
theorem s_Reckoner_reckon_L17 {X : XT} {r : GS} : ∀ (n : Nat) {G : GS} {x1 : Nat} {x2 : Int}, lawC x1 = true → wr x2 = x2 → f_Reckoner_reckon_L17 n G x1 x2 = some r → J X true 8 0 0 M_Reckoner_reckon (Rv r) NC 0 0 17 [(0, rf X 35), (1, rf X x1), (2, vi x2)] [] G := by
  intro n
  induction n with
  | zero =>
    intro G x1 x2 hx1 hx2 h
    exact none_some h
  | succ n ih =>
    intro G x1 x2 hx1 hx2 h
    rw [f_Reckoner_reckon_L17] at h
    refine j_iloadn (k := 2) (D_Reckoner_reckon 11 rfl) rfl rfl ?_
    refine j_aloadn (k := 1) (D_Reckoner_reckon 12 rfl) rfl rfl ?_
    refine j_getI rfl fa_Reckoner_29 (law_kd hx1).1 (law_kd hx1).2.1 (by decide) rfl (D_Reckoner_reckon 13 rfl) ?_
    refine j_ic_ge (tgt := 56) (D_Reckoner_reckon 14 rfl) rfl (hx2) (wr_gi _ _ _) (fun c1 => ?_) (fun c1 => ?_)
    · replace h := ite_t h c1
      exact j_vret (D_Reckoner_reckon 32 rfl) rfl rfl rfl (leafV h)
    · replace h := ite_f h c1
      refine j_aloadn (k := 1) (D_Reckoner_reckon 15 rfl) rfl rfl ?_
      refine j_getR rfl fa_Reckoner_34 (law_kd hx1).1 (law_kd hx1).2.1 (by decide) rfl (fun w => law_fx5 w hx1) (by omega) (D_Reckoner_reckon 16 rfl) ?_
      refine j_iloadn (k := 2) (D_Reckoner_reckon 17 rfl) rfl rfl ?_
      have g1 := gd_c h
      replace h := gd_s h
      refine j_iald (NI := 800) (D_Reckoner_reckon 18 rfl) (law_kd5 hx1).1 (law_kd5 hx1).2 (hx2) rfl g1.1 g1.2 ?_
      refine j_istoren (L' := [(3, vi (gi G (x1 + 5) x2.toNat)), (0, rf X 35), (1, rf X x1), (2, vi x2)]) (D_Reckoner_reckon 19 rfl) rfl (wr_gi _ _ _) (by decide) rfl ?_
      refine j_iloadn (k := 0) (D_Reckoner_reckon 20 rfl) rfl rfl ?_
      refine j_if_lt (tgt := 44) (D_Reckoner_reckon 21 rfl) rfl (wr_gi _ _ _) (fun c2 => ?_) (fun c2 => ?_)
      · replace h := ite_t h c2
        refine j_aloadn (k := 1) (D_Reckoner_reckon 26 rfl) rfl rfl ?_
        refine j_iloadn (k := 0) (D_Reckoner_reckon 27 rfl) rfl rfl ?_
        refine j_ineg (D_Reckoner_reckon 28 rfl) ?_
        refine j_top0 (rfl) ?_
        obtain ⟨q1, e1, h⟩ := Option.bind_eq_some_iff.mp h
        refine j_cVv (c_Reckoner_work (wr_wr _) e1) rfl lk_Reckoner_41 mok_Reckoner_work kd_35 lc_35 rfl (by decide) rfl rfl (Nat.le_of_ble_eq_true rfl) (D_Reckoner_reckon 29 rfl) ?_
        refine j_loc [1, 2, 3] rfl ?_
        exact s_Reckoner_reckon_L50 ih hx1 (hx2) h
      · replace h := ite_f h c2
        refine j_aloadn (k := 1) (D_Reckoner_reckon 22 rfl) rfl rfl ?_
        refine j_iloadn (k := 0) (D_Reckoner_reckon 23 rfl) rfl rfl ?_
        obtain ⟨q2, e2, h⟩ := Option.bind_eq_some_iff.mp h
        refine j_cVv (c_Reckoner_push (wr_gi _ _ _) e2) rfl lk_Reckoner_37 mok_Reckoner_push kd_35 lc_35 rfl (by decide) rfl rfl (Nat.le_of_ble_eq_true rfl) (D_Reckoner_reckon 24 rfl) ?_
        refine j_goto (tgt := 50) (D_Reckoner_reckon 25 rfl) rfl ?_
        refine j_loc [1, 2, 3] rfl ?_
        exact s_Reckoner_reckon_L50 ih hx1 (hx2) h
def f_Reckoner_reckon (G : GS) (a1 : Nat) : Option (GS) :=
  wG (si G 35 2 0) fun G1 =>
  wG (si G1 35 3 0) fun G2 =>
  wG (si G2 35 4 0) fun G3 =>
  f_Reckoner_reckon_L17 FU G3 a1 0
theorem c_Reckoner_reckon {X : XT} {G : GS} {a1 : Nat} {r : GS} (ha1 : lawC a1 = true) (h : f_Reckoner_reckon G a1 = some r) : Call X true 8 0 0 M_Reckoner_reckon [rf X 35, rf X a1] NC G (Rv r) := by
  refine Call_of_J cw_Reckoner_reckon (by decide +kernel) (Nat.le_of_ble_eq_true rfl) ?_
  unfold f_Reckoner_reckon at h
  show J X true 8 0 0 M_Reckoner_reckon (Rv r) NC 0 0 0 [(0, rf X 35), (1, rf X a1)] [] G
  refine j_aloadn (k := 0) (D_Reckoner_reckon 0 rfl) rfl rfl ?_
  refine j_iconst (v := 0) (D_Reckoner_reckon 1 rfl) rfl ?_
  refine j_putI rfl fa_Reckoner_18 kd_35 lc_35 (by decide) rfl (D_Reckoner_reckon 2 rfl) ?_
  refine j_gen (fun G1 e1 => ?_)
  replace h := wG_at h e1
  refine j_aloadn (k := 0) (D_Reckoner_reckon 3 rfl) rfl rfl ?_
  refine j_iconst (v := 0) (D_Reckoner_reckon 4 rfl) rfl ?_
  refine j_putI rfl fa_Reckoner_22 kd_35 lc_35 (by decide) rfl (D_Reckoner_reckon 5 rfl) ?_
  refine j_gen (fun G2 e2 => ?_)
  replace h := wG_at h e2
  refine j_aloadn (k := 0) (D_Reckoner_reckon 6 rfl) rfl rfl ?_
  refine j_iconst (v := 0) (D_Reckoner_reckon 7 rfl) rfl ?_
  refine j_putZ rfl fa_Reckoner_25 kd_35 lc_35 (by decide) rfl (wr_lit rfl) (by decide) (D_Reckoner_reckon 8 rfl) ?_
  refine j_gen (fun G3 e3 => ?_)
  replace h := wG_at h e3
  refine j_iconst (v := 0) (D_Reckoner_reckon 9 rfl) rfl ?_
  refine j_istoren (L' := [(2, vi 0), (0, rf X 35), (1, rf X a1)]) (D_Reckoner_reckon 10 rfl) rfl (wr_lit rfl) (by decide) rfl ?_
  refine j_loc [1, 2, 0] rfl ?_
  exact s_Reckoner_reckon_L17 FU ha1 (wr_lit rfl) h
abbrev M_Seizings_holderAt : MI := (⟨"InquestHall$Seizings", "holderAt", "(III)I"⟩, prog_11_method_7_code, 7, (some .int))
theorem cw_Seizings_holderAt : Cond.code M_Seizings_holderAt.1 M_Seizings_holderAt.2.1 M_Seizings_holderAt.2.2.1 M_Seizings_holderAt.2.2.2 ∈ TS := mTS (List.mem_of_getElem? (i := 1082) (by decide +kernel)) (by decide +kernel)
theorem fa_Seizings_30 : FA "InquestHall$Seizings" 30 9 6 false .int := ⟨_, _, _, _, ok_Seizings, by decide, mTS (List.mem_of_getElem? (i := 491) (by decide +kernel)) (by decide +kernel), rfl, rfl⟩
theorem kd_38 : kd 38 = (9 + 5, 7) := rfl
theorem lc_38 : 38 < NC := by decide
theorem fa_Seizings_15 : FA "InquestHall$Seizings" 15 9 1 true (.array .int) := ⟨_, _, _, _, ok_Seizings, by decide, mTS (List.mem_of_getElem? (i := 484) (by decide +kernel)) (by decide +kernel), rfl, rfl⟩
theorem fx_38_1 {G : GS} (w : WF true NC G) : G.2.2 38 1 = 40 := w.2 rfl (38, 1, 40) (by decide)
theorem kd_40 : kd 40 = (0, 100) := rfl
theorem lc_40 : 40 < NC := by decide
theorem fa_Seizings_21 : FA "InquestHall$Seizings" 21 9 3 true (.array .int) := ⟨_, _, _, _, ok_Seizings, by decide, mTS (List.mem_of_getElem? (i := 486) (by decide +kernel)) (by decide +kernel), rfl, rfl⟩
theorem fx_38_3 {G : GS} (w : WF true NC G) : G.2.2 38 3 = 42 := w.2 rfl (38, 3, 42) (by decide)
theorem kd_42 : kd 42 = (0, 100) := rfl
theorem lc_42 : 42 < NC := by decide
theorem fa_Seizings_27 : FA "InquestHall$Seizings" 27 9 5 true (.array .int) := ⟨_, _, _, _, ok_Seizings, by decide, mTS (List.mem_of_getElem? (i := 489) (by decide +kernel)) (by decide +kernel), rfl, rfl⟩
theorem fx_38_5 {G : GS} (w : WF true NC G) : G.2.2 38 5 = 44 := w.2 rfl (38, 5, 44) (by decide)
theorem kd_44 : kd 44 = (0, 100) := rfl
theorem lc_44 : 44 < NC := by decide
theorem fa_Seizings_11 : FA "InquestHall$Seizings" 11 9 0 true (.array .int) := ⟨_, _, _, _, ok_Seizings, by decide, mTS (List.mem_of_getElem? (i := 483) (by decide +kernel)) (by decide +kernel), rfl, rfl⟩
theorem fx_38_0 {G : GS} (w : WF true NC G) : G.2.2 38 0 = 39 := w.2 rfl (38, 0, 39) (by decide)
theorem kd_39 : kd 39 = (0, 100) := rfl
theorem lc_39 : 39 < NC := by decide
theorem fa_Seizings_18 : FA "InquestHall$Seizings" 18 9 2 true (.array .int) := ⟨_, _, _, _, ok_Seizings, by decide, mTS (List.mem_of_getElem? (i := 485) (by decide +kernel)) (by decide +kernel), rfl, rfl⟩
theorem fx_38_2 {G : GS} (w : WF true NC G) : G.2.2 38 2 = 41 := w.2 rfl (38, 2, 41) (by decide)
theorem kd_41 : kd 41 = (0, 100) := rfl
theorem lc_41 : 41 < NC := by decide
def tb_Seizings_holderAt : List (Nat × Instr × Nat) := [(0, .iconst (-1), 1), (1, .istore 4, 2), (3, .iconst 0, 1), (4, .istore 5, 2), (6, .iload 5, 2), (8, .aload_n 0, 1), (9, .getfield 30, 3), (12, .if_icmp .ge 103, 3), (15, .aload_n 0, 1), (16, .getfield 21, 3), (19, .iload 5, 2), (21, .iaload, 1), (22, .iload_n 3, 1), (23, .if_icmp .gt 29, 3), (26, .aload_n 0, 1), (27, .getfield 27, 3), (30, .iload 5, 2), (32, .iaload, 1), (33, .iconst (-1), 1), (34, .if_icmp .eq 14, 3), (37, .aload_n 0, 1), (38, .getfield 27, 3), (41, .iload 5, 2), (43, .iaload, 1), (44, .iload_n 3, 1), (45, .if_icmp .le 7, 3), (48, .iconst 1, 1), (49, .goto 4, 3), (52, .iconst 0, 1), (53, .istore 6, 2), (55, .aload_n 0, 1), (56, .getfield 11, 3), (59, .iload 5, 2), (61, .iaload, 1), (62, .iload_n 1, 1), (63, .if_icmp .ne 46, 3), (66, .iload 6, 2), (68, .ifCond .eq 41, 3), (71, .aload_n 0, 1), (72, .getfield 18, 3), (75, .iload 5, 2), (77, .iaload, 1), (78, .iload_n 2, 1), (79, .if_icmp .gt 30, 3), (82, .iload 4, 2), (84, .iconst (-1), 1), (85, .if_icmp .eq 20, 3), (88, .aload_n 0, 1), (89, .getfield 18, 3), (92, .iload 5, 2), (94, .iaload, 1), (95, .aload_n 0, 1), (96, .getfield 18, 3), (99, .iload 4, 2), (101, .iaload, 1), (102, .if_icmp .lt 7, 3), (105, .iload 5, 2), (107, .istore 4, 2), (109, .iinc 5 1, 3), (112, .goto (-106), 3), (115, .iload 4, 2), (117, .iconst (-1), 1), (118, .if_icmp .ne 8, 3), (121, .bipush (-2), 2), (123, .goto 10, 3), (126, .aload_n 0, 1), (127, .getfield 15, 3), (130, .iload 4, 2), (132, .iaload, 1), (133, .ireturn, 1)]
theorem D_Seizings_holderAt (i : Nat) {pc len : Nat} {ins : Instr} (hi : tb_Seizings_holderAt[i]? = some (pc, ins, len)) : decode M_Seizings_holderAt.2.1 pc = .ok (ins, len) := dec_of (by decide +kernel) i hi
def f_Seizings_holderAt_L109 (G : GS) (k6 : Int → Int → Int → Int → Int → Option (Int)) (x1 : Int) (x2 : Int) (x3 : Int) (x4 : Int) (x5 : Int) : Option (Int) :=
  k6 x1 x2 x3 x4 (wr (x5 + 1))
theorem s_Seizings_holderAt_L109 {X : XT} {G : GS} {r : Int} {k6 : Int → Int → Int → Int → Int → Option (Int)} (hk6 : ∀ {x1 : Int} {x2 : Int} {x3 : Int} {x4 : Int} {x5 : Int} , wr x1 = x1 → wr x2 = x2 → wr x3 = x3 → wr x4 = x4 → wr x5 = x5 → k6 x1 x2 x3 x4 x5 = some r → J X true 6 0 0 M_Seizings_holderAt (Ri r G) NC 0 0 6 [(0, rf X 38), (1, vi x1), (2, vi x2), (3, vi x3), (4, vi x4), (5, vi x5)] [] G) : ∀ {x1 : Int} {x2 : Int} {x3 : Int} {x4 : Int} {x5 : Int}, wr x1 = x1 → wr x2 = x2 → wr x3 = x3 → wr x4 = x4 → wr x5 = x5 → f_Seizings_holderAt_L109 G k6 x1 x2 x3 x4 x5 = some r → J X true 6 0 0 M_Seizings_holderAt (Ri r G) NC 0 0 109 [(0, rf X 38), (1, vi x1), (2, vi x2), (3, vi x3), (4, vi x4), (5, vi x5)] [] G := by
  intro x1 x2 x3 x4 x5 hx1 hx2 hx3 hx4 hx5 h
  unfold f_Seizings_holderAt_L109 at h
  refine j_iinc (k := 5) (L' := [(5, vi (wr (x5 + 1))), (0, rf X 38), (1, vi x1), (2, vi x2), (3, vi x3), (4, vi x4)]) (D_Seizings_holderAt 58 rfl) rfl rfl (by decide) rfl ?_
  refine j_goto (tgt := 6) (D_Seizings_holderAt 59 rfl) rfl ?_
  refine j_loc [1, 2, 3, 4, 5, 0] rfl ?_
  exact hk6 (hx1) (hx2) (hx3) (hx4) (wr_wr _) h
def f_Seizings_holderAt_L105 (G : GS) (k6 : Int → Int → Int → Int → Int → Option (Int)) (x1 : Int) (x2 : Int) (x3 : Int) (x5 : Int) : Option (Int) :=
  f_Seizings_holderAt_L109 G k6 x1 x2 x3 x5 x5
theorem s_Seizings_holderAt_L105 {X : XT} {G : GS} {r : Int} {k6 : Int → Int → Int → Int → Int → Option (Int)} (hk6 : ∀ {x1 : Int} {x2 : Int} {x3 : Int} {x4 : Int} {x5 : Int} , wr x1 = x1 → wr x2 = x2 → wr x3 = x3 → wr x4 = x4 → wr x5 = x5 → k6 x1 x2 x3 x4 x5 = some r → J X true 6 0 0 M_Seizings_holderAt (Ri r G) NC 0 0 6 [(0, rf X 38), (1, vi x1), (2, vi x2), (3, vi x3), (4, vi x4), (5, vi x5)] [] G) : ∀ {x1 : Int} {x2 : Int} {x3 : Int} {x5 : Int}, wr x1 = x1 → wr x2 = x2 → wr x3 = x3 → wr x5 = x5 → f_Seizings_holderAt_L105 G k6 x1 x2 x3 x5 = some r → J X true 6 0 0 M_Seizings_holderAt (Ri r G) NC 0 0 105 [(0, rf X 38), (1, vi x1), (2, vi x2), (3, vi x3), (5, vi x5)] [] G := by
  intro x1 x2 x3 x5 hx1 hx2 hx3 hx5 h
  unfold f_Seizings_holderAt_L105 at h
  refine j_iload (k := 4) (D_Seizings_holderAt 56 rfl) rfl ?_
  refine j_istore (L' := [(4, vi x5), (0, rf X 38), (1, vi x1), (2, vi x2), (3, vi x3), (5, vi x5)]) (D_Seizings_holderAt 57 rfl) (hx5) (by decide) rfl ?_
  refine j_loc [1, 2, 3, 4, 0, 5] rfl ?_
  exact s_Seizings_holderAt_L109 hk6 (hx1) (hx2) (hx3) (hx5) (hx5) h
def f_Seizings_holderAt_L53 (G : GS) (k6 : Int → Int → Int → Int → Int → Option (Int)) (x1 : Int) (x2 : Int) (x3 : Int) (x4 : Int) (x5 : Int) (s0 : Int) : Option (Int) :=
  gd (0 ≤ x5 ∧ x5 < 100) <|
  if gi G 39 x5.toNat = x1 then
    if s0 = 0 then
      f_Seizings_holderAt_L109 G k6 x1 x2 x3 x4 x5
    else
      gd (0 ≤ x5 ∧ x5 < 100) <|
      if x2 < gi G 41 x5.toNat then
        f_Seizings_holderAt_L109 G k6 x1 x2 x3 x4 x5
      else
        if x4 = (-1) then
          f_Seizings_holderAt_L105 G k6 x1 x2 x3 x5
        else
          gd (0 ≤ x5 ∧ x5 < 100) <|
          gd (0 ≤ x4 ∧ x4 < 100) <|
          if gi G 41 x5.toNat < gi G 41 x4.toNat then
            f_Seizings_holderAt_L109 G k6 x1 x2 x3 x4 x5
          else
            f_Seizings_holderAt_L105 G k6 x1 x2 x3 x5
  else
    f_Seizings_holderAt_L109 G k6 x1 x2 x3 x4 x5
theorem s_Seizings_holderAt_L53 {X : XT} {G : GS} {r : Int} {k6 : Int → Int → Int → Int → Int → Option (Int)} (hk6 : ∀ {x1 : Int} {x2 : Int} {x3 : Int} {x4 : Int} {x5 : Int} , wr x1 = x1 → wr x2 = x2 → wr x3 = x3 → wr x4 = x4 → wr x5 = x5 → k6 x1 x2 x3 x4 x5 = some r → J X true 6 0 0 M_Seizings_holderAt (Ri r G) NC 0 0 6 [(0, rf X 38), (1, vi x1), (2, vi x2), (3, vi x3), (4, vi x4), (5, vi x5)] [] G) : ∀ {x1 : Int} {x2 : Int} {x3 : Int} {x4 : Int} {x5 : Int} {s0 : Int}, wr x1 = x1 → wr x2 = x2 → wr x3 = x3 → wr x4 = x4 → wr x5 = x5 → wr s0 = s0 → f_Seizings_holderAt_L53 G k6 x1 x2 x3 x4 x5 s0 = some r → J X true 6 0 0 M_Seizings_holderAt (Ri r G) NC 0 0 53 [(0, rf X 38), (1, vi x1), (2, vi x2), (3, vi x3), (4, vi x4), (5, vi x5)] [vi s0] G := by
  intro x1 x2 x3 x4 x5 s0 hx1 hx2 hx3 hx4 hx5 hs0 h
  unfold f_Seizings_holderAt_L53 at h
  refine j_istore (L' := [(6, vi s0), (0, rf X 38), (1, vi x1), (2, vi x2), (3, vi x3), (4, vi x4), (5, vi x5)]) (D_Seizings_holderAt 29 rfl) (hs0) (by decide) rfl ?_
  refine j_aloadn (k := 1) (D_Seizings_holderAt 30 rfl) rfl rfl ?_
  refine j_getR rfl fa_Seizings_11 kd_38 lc_38 (by decide) rfl fx_38_0 (by decide) (D_Seizings_holderAt 31 rfl) ?_
  refine j_iload (k := 6) (D_Seizings_holderAt 32 rfl) rfl ?_
  have g1 := gd_c h
  replace h := gd_s h
  refine j_iald (NI := 100) (D_Seizings_holderAt 33 rfl) kd_39 lc_39 (hx5) rfl g1.1 g1.2 ?_
  refine j_iloadn (k := 2) (D_Seizings_holderAt 34 rfl) rfl rfl ?_
  refine j_ic_ne (tgt := 109) (D_Seizings_holderAt 35 rfl) rfl (wr_gi _ _ _) (hx1) (fun c1 => ?_) (fun c1 => ?_)
  · replace h := ite_f h c1
    refine j_loc [1, 2, 3, 4, 5, 6] rfl ?_
    exact s_Seizings_holderAt_L109 hk6 (hx1) (hx2) (hx3) (hx4) (hx5) h
  · replace h := ite_t h c1
    refine j_iload (k := 0) (D_Seizings_holderAt 36 rfl) rfl ?_
    refine j_if_eq (tgt := 109) (D_Seizings_holderAt 37 rfl) rfl (hs0) (fun c2 => ?_) (fun c2 => ?_)
    · replace h := ite_t h c2
      refine j_loc [1, 2, 3, 4, 5, 6] rfl ?_
      exact s_Seizings_holderAt_L109 hk6 (hx1) (hx2) (hx3) (hx4) (hx5) h
    · replace h := ite_f h c2
      refine j_aloadn (k := 1) (D_Seizings_holderAt 38 rfl) rfl rfl ?_
      refine j_getR rfl fa_Seizings_18 kd_38 lc_38 (by decide) rfl fx_38_2 (by decide) (D_Seizings_holderAt 39 rfl) ?_
      refine j_iload (k := 6) (D_Seizings_holderAt 40 rfl) rfl ?_
      have g2 := gd_c h
      replace h := gd_s h
      refine j_iald (NI := 100) (D_Seizings_holderAt 41 rfl) kd_41 lc_41 (hx5) rfl g2.1 g2.2 ?_
      refine j_iloadn (k := 3) (D_Seizings_holderAt 42 rfl) rfl rfl ?_
      refine j_ic_gt (tgt := 109) (D_Seizings_holderAt 43 rfl) rfl (wr_gi _ _ _) (hx2) (fun c3 => ?_) (fun c3 => ?_)
      · replace h := ite_t h c3
        refine j_loc [1, 2, 3, 4, 5, 6] rfl ?_
        exact s_Seizings_holderAt_L109 hk6 (hx1) (hx2) (hx3) (hx4) (hx5) h
      · replace h := ite_f h c3
        refine j_iload (k := 5) (D_Seizings_holderAt 44 rfl) rfl ?_
        refine j_iconst (v := (-1)) (D_Seizings_holderAt 45 rfl) rfl ?_
        refine j_ic_eq (tgt := 105) (D_Seizings_holderAt 46 rfl) rfl (hx4) (wr_lit rfl) (fun c4 => ?_) (fun c4 => ?_)
        · replace h := ite_t h c4
          refine j_loc [1, 2, 3, 4, 6] rfl ?_
          exact s_Seizings_holderAt_L105 hk6 (hx1) (hx2) (hx3) (hx5) h
        · replace h := ite_f h c4
          refine j_aloadn (k := 1) (D_Seizings_holderAt 47 rfl) rfl rfl ?_
          refine j_getR rfl fa_Seizings_18 kd_38 lc_38 (by decide) rfl fx_38_2 (by decide) (D_Seizings_holderAt 48 rfl) ?_
          refine j_iload (k := 6) (D_Seizings_holderAt 49 rfl) rfl ?_
          have g3 := gd_c h
          replace h := gd_s h
          refine j_iald (NI := 100) (D_Seizings_holderAt 50 rfl) kd_41 lc_41 (hx5) rfl g3.1 g3.2 ?_
          refine j_aloadn (k := 1) (D_Seizings_holderAt 51 rfl) rfl rfl ?_
          refine j_getR rfl fa_Seizings_18 kd_38 lc_38 (by decide) rfl fx_38_2 (by decide) (D_Seizings_holderAt 52 rfl) ?_
          refine j_iload (k := 5) (D_Seizings_holderAt 53 rfl) rfl ?_
          have g4 := gd_c h
          replace h := gd_s h
          refine j_iald (NI := 100) (D_Seizings_holderAt 54 rfl) kd_41 lc_41 (hx4) rfl g4.1 g4.2 ?_
          refine j_ic_lt (tgt := 109) (D_Seizings_holderAt 55 rfl) rfl (wr_gi _ _ _) (wr_gi _ _ _) (fun c5 => ?_) (fun c5 => ?_)
          · replace h := ite_t h c5
            refine j_loc [1, 2, 3, 4, 5, 6] rfl ?_
            exact s_Seizings_holderAt_L109 hk6 (hx1) (hx2) (hx3) (hx4) (hx5) h
          · replace h := ite_f h c5
            refine j_loc [1, 2, 3, 4, 6] rfl ?_
            exact s_Seizings_holderAt_L105 hk6 (hx1) (hx2) (hx3) (hx5) h
def f_Seizings_holderAt_L52 (G : GS) (k6 : Int → Int → Int → Int → Int → Option (Int)) (x1 : Int) (x2 : Int) (x3 : Int) (x4 : Int) (x5 : Int) : Option (Int) :=
  f_Seizings_holderAt_L53 G k6 x1 x2 x3 x4 x5 0
theorem s_Seizings_holderAt_L52 {X : XT} {G : GS} {r : Int} {k6 : Int → Int → Int → Int → Int → Option (Int)} (hk6 : ∀ {x1 : Int} {x2 : Int} {x3 : Int} {x4 : Int} {x5 : Int} , wr x1 = x1 → wr x2 = x2 → wr x3 = x3 → wr x4 = x4 → wr x5 = x5 → k6 x1 x2 x3 x4 x5 = some r → J X true 6 0 0 M_Seizings_holderAt (Ri r G) NC 0 0 6 [(0, rf X 38), (1, vi x1), (2, vi x2), (3, vi x3), (4, vi x4), (5, vi x5)] [] G) : ∀ {x1 : Int} {x2 : Int} {x3 : Int} {x4 : Int} {x5 : Int}, wr x1 = x1 → wr x2 = x2 → wr x3 = x3 → wr x4 = x4 → wr x5 = x5 → f_Seizings_holderAt_L52 G k6 x1 x2 x3 x4 x5 = some r → J X true 6 0 0 M_Seizings_holderAt (Ri r G) NC 0 0 52 [(0, rf X 38), (1, vi x1), (2, vi x2), (3, vi x3), (4, vi x4), (5, vi x5)] [] G := by
  intro x1 x2 x3 x4 x5 hx1 hx2 hx3 hx4 hx5 h
  unfold f_Seizings_holderAt_L52 at h
  refine j_iconst (v := 0) (D_Seizings_holderAt 28 rfl) rfl ?_
  refine j_loc [0, 1, 2, 3, 4, 5] rfl ?_
  exact s_Seizings_holderAt_L53 hk6 (hx1) (hx2) (hx3) (hx4) (hx5) (wr_lit rfl) h
def f_Seizings_holderAt_L48 (G : GS) (k6 : Int → Int → Int → Int → Int → Option (Int)) (x1 : Int) (x2 : Int) (x3 : Int) (x4 : Int) (x5 : Int) : Option (Int) :=
  f_Seizings_holderAt_L53 G k6 x1 x2 x3 x4 x5 1
theorem s_Seizings_holderAt_L48 {X : XT} {G : GS} {r : Int} {k6 : Int → Int → Int → Int → Int → Option (Int)} (hk6 : ∀ {x1 : Int} {x2 : Int} {x3 : Int} {x4 : Int} {x5 : Int} , wr x1 = x1 → wr x2 = x2 → wr x3 = x3 → wr x4 = x4 → wr x5 = x5 → k6 x1 x2 x3 x4 x5 = some r → J X true 6 0 0 M_Seizings_holderAt (Ri r G) NC 0 0 6 [(0, rf X 38), (1, vi x1), (2, vi x2), (3, vi x3), (4, vi x4), (5, vi x5)] [] G) : ∀ {x1 : Int} {x2 : Int} {x3 : Int} {x4 : Int} {x5 : Int}, wr x1 = x1 → wr x2 = x2 → wr x3 = x3 → wr x4 = x4 → wr x5 = x5 → f_Seizings_holderAt_L48 G k6 x1 x2 x3 x4 x5 = some r → J X true 6 0 0 M_Seizings_holderAt (Ri r G) NC 0 0 48 [(0, rf X 38), (1, vi x1), (2, vi x2), (3, vi x3), (4, vi x4), (5, vi x5)] [] G := by
  intro x1 x2 x3 x4 x5 hx1 hx2 hx3 hx4 hx5 h
  unfold f_Seizings_holderAt_L48 at h
  refine j_iconst (v := 1) (D_Seizings_holderAt 26 rfl) rfl ?_
  refine j_goto (tgt := 53) (D_Seizings_holderAt 27 rfl) rfl ?_
  refine j_loc [0, 1, 2, 3, 4, 5] rfl ?_
  exact s_Seizings_holderAt_L53 hk6 (hx1) (hx2) (hx3) (hx4) (hx5) (wr_lit rfl) h
def f_Seizings_holderAt_L6 (G : GS) : Nat → Int → Int → Int → Int → Int → Option (Int)
  | 0, _, _, _, _, _ => none
  | n + 1, x1, x2, x3, x4, x5 =>
    if gi G 38 6 ≤ x5 then
      if x4 = (-1) then
        some (-2)
      else
        gd (0 ≤ x4 ∧ x4 < 100) <|
        some (gi G 40 x4.toNat)
    else
      gd (0 ≤ x5 ∧ x5 < 100) <|
      if x3 < gi G 42 x5.toNat then
        f_Seizings_holderAt_L52 G (f_Seizings_holderAt_L6 G n) x1 x2 x3 x4 x5
      else
        gd (0 ≤ x5 ∧ x5 < 100) <|
        if gi G 44 x5.toNat = (-1) then
          f_Seizings_holderAt_L48 G (f_Seizings_holderAt_L6 G n) x1 x2 x3 x4 x5
        else
          gd (0 ≤ x5 ∧ x5 < 100) <|
          if gi G 44 x5.toNat ≤ x3 then
            f_Seizings_holderAt_L52 G (f_Seizings_holderAt_L6 G n) x1 x2 x3 x4 x5
          else
            f_Seizings_holderAt_L48 G (f_Seizings_holderAt_L6 G n) x1 x2 x3 x4 x5
theorem s_Seizings_holderAt_L6 {X : XT} {G : GS} {r : Int} : ∀ (n : Nat) {x1 : Int} {x2 : Int} {x3 : Int} {x4 : Int} {x5 : Int}, wr x1 = x1 → wr x2 = x2 → wr x3 = x3 → wr x4 = x4 → wr x5 = x5 → f_Seizings_holderAt_L6 G n x1 x2 x3 x4 x5 = some r → J X true 6 0 0 M_Seizings_holderAt (Ri r G) NC 0 0 6 [(0, rf X 38), (1, vi x1), (2, vi x2), (3, vi x3), (4, vi x4), (5, vi x5)] [] G := by
  intro n
  induction n with
  | zero =>
    intro x1 x2 x3 x4 x5 hx1 hx2 hx3 hx4 hx5 h
    exact none_some h
  | succ n ih =>
    intro x1 x2 x3 x4 x5 hx1 hx2 hx3 hx4 hx5 h
    rw [f_Seizings_holderAt_L6] at h
    refine j_iload (k := 5) (D_Seizings_holderAt 4 rfl) rfl ?_
    refine j_aloadn (k := 0) (D_Seizings_holderAt 5 rfl) rfl rfl ?_
    refine j_getI rfl fa_Seizings_30 kd_38 lc_38 (by decide) rfl (D_Seizings_holderAt 6 rfl) ?_
    refine j_ic_ge (tgt := 115) (D_Seizings_holderAt 7 rfl) rfl (hx5) (wr_gi _ _ _) (fun c1 => ?_) (fun c1 => ?_)
    · replace h := ite_t h c1
      refine j_iload (k := 4) (D_Seizings_holderAt 60 rfl) rfl ?_
      refine j_iconst (v := (-1)) (D_Seizings_holderAt 61 rfl) rfl ?_
      refine j_ic_ne (tgt := 126) (D_Seizings_holderAt 62 rfl) rfl (hx4) (wr_lit rfl) (fun c2 => ?_) (fun c2 => ?_)
      · replace h := ite_f h c2
        refine j_aloadn (k := 0) (D_Seizings_holderAt 65 rfl) rfl rfl ?_
        refine j_getR rfl fa_Seizings_15 kd_38 lc_38 (by decide) rfl fx_38_1 (by decide) (D_Seizings_holderAt 66 rfl) ?_
        refine j_iload (k := 4) (D_Seizings_holderAt 67 rfl) rfl ?_
        have g1 := gd_c h
        replace h := gd_s h
        refine j_iald (NI := 100) (D_Seizings_holderAt 68 rfl) kd_40 lc_40 (hx4) rfl g1.1 g1.2 ?_
        exact j_iret (D_Seizings_holderAt 69 rfl) rfl (wr_gi _ _ _) rfl rfl (leafIo h (wr_n (wr_gi _ _ _)))
      · replace h := ite_t h c2
        refine j_bipush (v := (-2)) (D_Seizings_holderAt 63 rfl) rfl ?_
        refine j_goto (tgt := 133) (D_Seizings_holderAt 64 rfl) rfl ?_
        exact j_iret (D_Seizings_holderAt 69 rfl) rfl (wr_lit rfl) rfl rfl (leafIo h (wr_n (wr_lit rfl)))
    · replace h := ite_f h c1
      refine j_aloadn (k := 0) (D_Seizings_holderAt 8 rfl) rfl rfl ?_
      refine j_getR rfl fa_Seizings_21 kd_38 lc_38 (by decide) rfl fx_38_3 (by decide) (D_Seizings_holderAt 9 rfl) ?_
      refine j_iload (k := 5) (D_Seizings_holderAt 10 rfl) rfl ?_
      have g2 := gd_c h
      replace h := gd_s h
      refine j_iald (NI := 100) (D_Seizings_holderAt 11 rfl) kd_42 lc_42 (hx5) rfl g2.1 g2.2 ?_
      refine j_iloadn (k := 3) (D_Seizings_holderAt 12 rfl) rfl rfl ?_
      refine j_ic_gt (tgt := 52) (D_Seizings_holderAt 13 rfl) rfl (wr_gi _ _ _) (hx3) (fun c3 => ?_) (fun c3 => ?_)
      · replace h := ite_t h c3
        refine j_loc [0, 1, 2, 3, 4, 5] rfl ?_
        exact s_Seizings_holderAt_L52 ih (hx1) (hx2) (hx3) (hx4) (hx5) h
      · replace h := ite_f h c3
        refine j_aloadn (k := 0) (D_Seizings_holderAt 14 rfl) rfl rfl ?_
        refine j_getR rfl fa_Seizings_27 kd_38 lc_38 (by decide) rfl fx_38_5 (by decide) (D_Seizings_holderAt 15 rfl) ?_
        refine j_iload (k := 5) (D_Seizings_holderAt 16 rfl) rfl ?_
        have g3 := gd_c h
        replace h := gd_s h
        refine j_iald (NI := 100) (D_Seizings_holderAt 17 rfl) kd_44 lc_44 (hx5) rfl g3.1 g3.2 ?_
        refine j_iconst (v := (-1)) (D_Seizings_holderAt 18 rfl) rfl ?_
        refine j_ic_eq (tgt := 48) (D_Seizings_holderAt 19 rfl) rfl (wr_gi _ _ _) (wr_lit rfl) (fun c4 => ?_) (fun c4 => ?_)
        · replace h := ite_t h c4
          refine j_loc [0, 1, 2, 3, 4, 5] rfl ?_
          exact s_Seizings_holderAt_L48 ih (hx1) (hx2) (hx3) (hx4) (hx5) h
        · replace h := ite_f h c4
          refine j_aloadn (k := 0) (D_Seizings_holderAt 20 rfl) rfl rfl ?_
          refine j_getR rfl fa_Seizings_27 kd_38 lc_38 (by decide) rfl fx_38_5 (by decide) (D_Seizings_holderAt 21 rfl) ?_
          refine j_iload (k := 5) (D_Seizings_holderAt 22 rfl) rfl ?_
          have g4 := gd_c h
          replace h := gd_s h
          refine j_iald (NI := 100) (D_Seizings_holderAt 23 rfl) kd_44 lc_44 (hx5) rfl g4.1 g4.2 ?_
          refine j_iloadn (k := 3) (D_Seizings_holderAt 24 rfl) rfl rfl ?_
          refine j_ic_le (tgt := 52) (D_Seizings_holderAt 25 rfl) rfl (wr_gi _ _ _) (hx3) (fun c5 => ?_) (fun c5 => ?_)
          · replace h := ite_t h c5
            refine j_loc [0, 1, 2, 3, 4, 5] rfl ?_
            exact s_Seizings_holderAt_L52 ih (hx1) (hx2) (hx3) (hx4) (hx5) h
          · replace h := ite_f h c5
            refine j_loc [0, 1, 2, 3, 4, 5] rfl ?_
            exact s_Seizings_holderAt_L48 ih (hx1) (hx2) (hx3) (hx4) (hx5) h
def f_Seizings_holderAt (G : GS) (a1 : Int) (a2 : Int) (a3 : Int) : Option (Int) :=
  f_Seizings_holderAt_L6 G FU a1 a2 a3 (-1) 0
theorem c_Seizings_holderAt {X : XT} {G : GS} {a1 : Int} {a2 : Int} {a3 : Int} {r : Int} (ha1 : wr a1 = a1) (ha2 : wr a2 = a2) (ha3 : wr a3 = a3) (h : f_Seizings_holderAt G a1 a2 a3 = some r) : Call X true 6 0 0 M_Seizings_holderAt [rf X 38, vi a1, vi a2, vi a3] NC G (Ri r G) := by
  refine Call_of_J cw_Seizings_holderAt (by decide +kernel) (Nat.le_of_ble_eq_true rfl) ?_
  unfold f_Seizings_holderAt at h
  show J X true 6 0 0 M_Seizings_holderAt (Ri r G) NC 0 0 0 [(0, rf X 38), (1, vi a1), (2, vi a2), (3, vi a3)] [] G
  refine j_iconst (v := (-1)) (D_Seizings_holderAt 0 rfl) rfl ?_
  refine j_istore (L' := [(4, vi (-1)), (0, rf X 38), (1, vi a1), (2, vi a2), (3, vi a3)]) (D_Seizings_holderAt 1 rfl) (wr_lit rfl) (by decide) rfl ?_
  refine j_iconst (v := 0) (D_Seizings_holderAt 2 rfl) rfl ?_
  refine j_istore (L' := [(5, vi 0), (4, vi (-1)), (0, rf X 38), (1, vi a1), (2, vi a2), (3, vi a3)]) (D_Seizings_holderAt 3 rfl) (wr_lit rfl) (by decide) rfl ?_
  refine j_loc [2, 3, 4, 5, 1, 0] rfl ?_
  exact s_Seizings_holderAt_L6 FU (ha1) (ha2) (ha3) (wr_lit rfl) (wr_lit rfl) h
