/-! printed by wip/whole/gen.py out of the listing of the bytecode -/
abbrev M_LawReader_operator : MI := (⟨"InquestHall$LawReader", "operator", "(I)Z"⟩, prog_6_method_15_code, 2, (some .boolean))
theorem cw_LawReader_operator : Cond.code M_LawReader_operator.1 M_LawReader_operator.2.1 M_LawReader_operator.2.2.1 M_LawReader_operator.2.2.2 ∈ TS := mTS (List.mem_of_getElem? (i := 882) (by decide +kernel)) (by decide +kernel)
theorem lk_LawReader_150 : Cond.methodLink "InquestHall$LawReader" 150 M_LawReader_settle.1 ∈ TS := mTS (List.mem_of_getElem? (i := 886) (by decide +kernel)) (by decide +kernel)
theorem mok_LawReader_settle : MOK M_LawReader_settle 1 := ⟨mTS (List.mem_of_getElem? (i := 888) (by decide +kernel)) (by decide +kernel), mTS (List.mem_of_getElem? (i := 19) (by decide +kernel)) (by decide +kernel), mTS (List.mem_of_getElem? (i := 130) (by decide +kernel)) (by decide +kernel), cw_LawReader_settle, ⟨by decide, by decide, by decide +kernel⟩, by decide +kernel, by decide⟩
theorem lk_LawReader_166 : Cond.methodLink "InquestHall$LawReader" 166 Lib.Math.max.name ∈ TS := mTS (List.mem_of_getElem? (i := 890) (by decide +kernel)) (by decide +kernel)
def tb_LawReader_operator : List (Nat × Instr × Nat) := [(0, .iload_n 1, 1), (1, .bipush 41, 2), (3, .if_icmp .ne 43, 3), (6, .aload_n 0, 1), (7, .bipush 127, 2), (9, .invokestatic 147, 3), (12, .invokevirtual 150, 3), (15, .aload_n 0, 1), (16, .iconst 0, 1), (17, .aload_n 0, 1), (18, .getfield 123, 3), (21, .iconst 1, 1), (22, .isub, 1), (23, .invokestatic 166, 3), (26, .putfield 123, 3), (29, .aload_n 0, 1), (30, .dup, 1), (31, .getfield 129, 3), (34, .iconst 1, 1), (35, .isub, 1), (36, .putfield 129, 3), (39, .aload_n 0, 1), (40, .iload_n 1, 1), (41, .invokevirtual 156, 3), (44, .iconst 0, 1), (45, .ireturn, 1), (46, .aload_n 0, 1), (47, .iload_n 1, 1), (48, .invokestatic 147, 3), (51, .invokevirtual 150, 3), (54, .aload_n 0, 1), (55, .iload_n 1, 1), (56, .invokevirtual 163, 3), (59, .iload_n 1, 1), (60, .sipush 128, 3), (63, .if_icmp .eq 9, 3), (66, .iload_n 1, 1), (67, .bipush 127, 2), (69, .if_icmp .ne 16, 3), (72, .aload_n 0, 1), (73, .iconst 0, 1), (74, .putfield 135, 3), (77, .aload_n 0, 1), (78, .iconst 0, 1), (79, .putfield 132, 3), (82, .goto 20, 3), (85, .iload_n 1, 1), (86, .invokestatic 147, 3), (89, .bipush 61, 2), (91, .invokestatic 147, 3), (94, .if_icmp .ne 8, 3), (97, .aload_n 0, 1), (98, .iconst 1, 1), (99, .putfield 135, 3), (102, .aload_n 0, 1), (103, .iload_n 1, 1), (104, .invokevirtual 156, 3), (107, .iconst 1, 1), (108, .ireturn, 1)]
theorem D_LawReader_operator (i : Nat) {pc len : Nat} {ins : Instr} (hi : tb_LawReader_operator[i]? = some (pc, ins, len)) : decode M_LawReader_operator.2.1 pc = .ok (ins, len) := dec_of (by decide +kernel) i hi
def f_LawReader_operator_L102 (G : GS) (x1 : Int) : Option (Int × GS) :=
  (f_LawReader_goBehind G x1).bind fun q1 =>
  some (1, q1)
theorem s_LawReader_operator_L102 {X : XT} {r : Int × GS} : ∀ {G : GS} {x1 : Int}, wr x1 = x1 → f_LawReader_operator_L102 G x1 = some r → J X true 9 0 0 M_LawReader_operator (Rz r.1 r.2) NC 0 0 102 [(0, rf X 21), (1, vi x1)] [] G := by
  intro G x1 hx1 h
  unfold f_LawReader_operator_L102 at h
  refine j_aloadn (k := 0) (D_LawReader_operator 54 rfl) rfl rfl ?_
  refine j_iloadn (k := 1) (D_LawReader_operator 55 rfl) rfl rfl ?_
  obtain ⟨q1, e1, h⟩ := Option.bind_eq_some_iff.mp h
  refine j_cVv (c_LawReader_goBehind (hx1) e1) rfl lk_LawReader_156 mok_LawReader_goBehind kd_21 lc_21 rfl (by decide) rfl rfl (Nat.le_of_ble_eq_true rfl) (D_LawReader_operator 56 rfl) ?_
  refine j_iconst (v := 1) (D_LawReader_operator 57 rfl) rfl ?_
  exact j_zret (D_LawReader_operator 58 rfl) rfl (wr_lit rfl) (nz_01 (by decide)) rfl rfl (leafZ h (wr_n (wr_lit rfl)) (by decide))
def f_LawReader_operator_L72 (G : GS) (x1 : Int) : Option (Int × GS) :=
  wG (si G 21 8 0) fun G1 =>
  wG (si G1 21 6 0) fun G2 =>
  f_LawReader_operator_L102 G2 x1
theorem s_LawReader_operator_L72 {X : XT} {r : Int × GS} : ∀ {G : GS} {x1 : Int}, wr x1 = x1 → f_LawReader_operator_L72 G x1 = some r → J X true 9 0 0 M_LawReader_operator (Rz r.1 r.2) NC 0 0 72 [(0, rf X 21), (1, vi x1)] [] G := by
  intro G x1 hx1 h
  unfold f_LawReader_operator_L72 at h
  refine j_aloadn (k := 0) (D_LawReader_operator 39 rfl) rfl rfl ?_
  refine j_iconst (v := 0) (D_LawReader_operator 40 rfl) rfl ?_
  refine j_putZ rfl fa_LawReader_135 kd_21 lc_21 (by decide) rfl (wr_lit rfl) (by decide) (D_LawReader_operator 41 rfl) ?_
  refine j_gen (fun G1 e1 => ?_)
  replace h := wG_at h e1
  refine j_aloadn (k := 0) (D_LawReader_operator 42 rfl) rfl rfl ?_
  refine j_iconst (v := 0) (D_LawReader_operator 43 rfl) rfl ?_
  refine j_putI rfl fa_LawReader_132 kd_21 lc_21 (by decide) rfl (D_LawReader_operator 44 rfl) ?_
  refine j_gen (fun G2 e2 => ?_)
  replace h := wG_at h e2
  refine j_goto (tgt := 102) (D_LawReader_operator 45 rfl) rfl ?_
  refine j_loc [0, 1] rfl ?_
  exact s_LawReader_operator_L102 (hx1) h
def f_LawReader_operator (G : GS) (a1 : Int) : Option (Int × GS) :=
  if a1 = 41 then
    (f_LawReader_rank G 127).bind fun q6 =>
    (f_LawReader_settle G q6).bind fun q7 =>
    wG (si q7 21 3 (max 0 (wr ((gi q7 21 3) - 1)))) fun G2 =>
    wG (si G2 21 5 ((gi G2 21 5) - 1)) fun G3 =>
    (f_LawReader_goBehind G3 a1).bind fun q8 =>
    some (0, q8)
  else
    (f_LawReader_rank G a1).bind fun q1 =>
    (f_LawReader_settle G q1).bind fun q2 =>
    (f_LawReader_hold q2 a1).bind fun q3 =>
    if a1 = 128 then
      f_LawReader_operator_L72 q3 a1
    else
      if a1 = 127 then
        f_LawReader_operator_L72 q3 a1
      else
        (f_LawReader_rank q3 a1).bind fun q4 =>
        (f_LawReader_rank q3 61).bind fun q5 =>
        if q4 = q5 then
          wG (si q3 21 8 1) fun G1 =>
          f_LawReader_operator_L102 G1 a1
        else
          f_LawReader_operator_L102 q3 a1
theorem c_LawReader_operator {X : XT} {G : GS} {a1 : Int} {r : Int × GS} (ha1 : wr a1 = a1) (h : f_LawReader_operator G a1 = some r) : Call X true 9 0 0 M_LawReader_operator [rf X 21, vi a1] NC G (Rz r.1 r.2) := by
  refine Call_of_J cw_LawReader_operator (by decide +kernel) (Nat.le_of_ble_eq_true rfl) ?_
  unfold f_LawReader_operator at h
  show J X true 9 0 0 M_LawReader_operator (Rz r.1 r.2) NC 0 0 0 [(0, rf X 21), (1, vi a1)] [] G
  refine j_iloadn (k := 1) (D_LawReader_operator 0 rfl) rfl rfl ?_
  refine j_bipush (v := 41) (D_LawReader_operator 1 rfl) rfl ?_
  refine j_ic_ne (tgt := 46) (D_LawReader_operator 2 rfl) rfl (ha1) (wr_lit rfl) (fun c1 => ?_) (fun c1 => ?_)
  · replace h := ite_f h c1
    refine j_aloadn (k := 0) (D_LawReader_operator 26 rfl) rfl rfl ?_
    refine j_iloadn (k := 1) (D_LawReader_operator 27 rfl) rfl rfl ?_
    obtain ⟨q1, e1, h⟩ := Option.bind_eq_some_iff.mp h
    refine j_cSi (c_LawReader_rank (ha1) e1) rfl lk_LawReader_147 sok_LawReader_rank (by decide) rfl rfl (Nat.le_of_ble_eq_true rfl) (D_LawReader_operator 28 rfl) (fun w1 => ?_)
    obtain ⟨q2, e2, h⟩ := Option.bind_eq_some_iff.mp h
    refine j_cVv (c_LawReader_settle (w1) e2) rfl lk_LawReader_150 mok_LawReader_settle kd_21 lc_21 rfl (by decide) rfl rfl (Nat.le_of_ble_eq_true rfl) (D_LawReader_operator 29 rfl) ?_
    refine j_aloadn (k := 0) (D_LawReader_operator 30 rfl) rfl rfl ?_
    refine j_iloadn (k := 1) (D_LawReader_operator 31 rfl) rfl rfl ?_
    obtain ⟨q3, e3, h⟩ := Option.bind_eq_some_iff.mp h
    refine j_cVv (c_LawReader_hold (ha1) e3) rfl lk_LawReader_163 mok_LawReader_hold kd_21 lc_21 rfl (by decide) rfl rfl (Nat.le_of_ble_eq_true rfl) (D_LawReader_operator 32 rfl) ?_
    refine j_iloadn (k := 1) (D_LawReader_operator 33 rfl) rfl rfl ?_
    refine j_sipush (v := 128) (D_LawReader_operator 34 rfl) rfl ?_
    refine j_ic_eq (tgt := 72) (D_LawReader_operator 35 rfl) rfl (ha1) (wr_lit rfl) (fun c2 => ?_) (fun c2 => ?_)
    · replace h := ite_t h c2
      refine j_loc [0, 1] rfl ?_
      exact s_LawReader_operator_L72 (ha1) h
    · replace h := ite_f h c2
      refine j_iloadn (k := 1) (D_LawReader_operator 36 rfl) rfl rfl ?_
      refine j_bipush (v := 127) (D_LawReader_operator 37 rfl) rfl ?_
      refine j_ic_ne (tgt := 85) (D_LawReader_operator 38 rfl) rfl (ha1) (wr_lit rfl) (fun c3 => ?_) (fun c3 => ?_)
      · replace h := ite_f h c3
        refine j_iloadn (k := 1) (D_LawReader_operator 46 rfl) rfl rfl ?_
        obtain ⟨q4, e4, h⟩ := Option.bind_eq_some_iff.mp h
        refine j_cSi (c_LawReader_rank (ha1) e4) rfl lk_LawReader_147 sok_LawReader_rank (by decide) rfl rfl (Nat.le_of_ble_eq_true rfl) (D_LawReader_operator 47 rfl) (fun w2 => ?_)
        refine j_bipush (v := 61) (D_LawReader_operator 48 rfl) rfl ?_
        obtain ⟨q5, e5, h⟩ := Option.bind_eq_some_iff.mp h
        refine j_cSi (c_LawReader_rank (wr_lit rfl) e5) rfl lk_LawReader_147 sok_LawReader_rank (by decide) rfl rfl (Nat.le_of_ble_eq_true rfl) (D_LawReader_operator 49 rfl) (fun w3 => ?_)
        refine j_ic_ne (tgt := 102) (D_LawReader_operator 50 rfl) rfl (w2) (w3) (fun c4 => ?_) (fun c4 => ?_)
        · replace h := ite_f h c4
          refine j_loc [0, 1] rfl ?_
          exact s_LawReader_operator_L102 (ha1) h
        · replace h := ite_t h c4
          refine j_aloadn (k := 0) (D_LawReader_operator 51 rfl) rfl rfl ?_
          refine j_iconst (v := 1) (D_LawReader_operator 52 rfl) rfl ?_
          refine j_putZ rfl fa_LawReader_135 kd_21 lc_21 (by decide) rfl (wr_lit rfl) (by decide) (D_LawReader_operator 53 rfl) ?_
          refine j_gen (fun G1 e6 => ?_)
          replace h := wG_at h e6
          refine j_loc [0, 1] rfl ?_
          exact s_LawReader_operator_L102 (ha1) h
      · replace h := ite_t h c3
        refine j_loc [0, 1] rfl ?_
        exact s_LawReader_operator_L72 (ha1) h
  · replace h := ite_t h c1
    refine j_aloadn (k := 0) (D_LawReader_operator 3 rfl) rfl rfl ?_
    refine j_bipush (v := 127) (D_LawReader_operator 4 rfl) rfl ?_
    obtain ⟨q6, e7, h⟩ := Option.bind_eq_some_iff.mp h
    refine j_cSi (c_LawReader_rank (wr_lit rfl) e7) rfl lk_LawReader_147 sok_LawReader_rank (by decide) rfl rfl (Nat.le_of_ble_eq_true rfl) (D_LawReader_operator 5 rfl) (fun w4 => ?_)
    obtain ⟨q7, e8, h⟩ := Option.bind_eq_some_iff.mp h
    refine j_cVv (c_LawReader_settle (w4) e8) rfl lk_LawReader_150 mok_LawReader_settle kd_21 lc_21 rfl (by decide) rfl rfl (Nat.le_of_ble_eq_true rfl) (D_LawReader_operator 6 rfl) ?_
    refine j_aloadn (k := 0) (D_LawReader_operator 7 rfl) rfl rfl ?_
    refine j_iconst (v := 0) (D_LawReader_operator 8 rfl) rfl ?_
    refine j_aloadn (k := 0) (D_LawReader_operator 9 rfl) rfl rfl ?_
    refine j_getI rfl fa_LawReader_123 kd_21 lc_21 (by decide) rfl (D_LawReader_operator 10 rfl) ?_
    refine j_iconst (v := 1) (D_LawReader_operator 11 rfl) rfl ?_
    refine j_isub (D_LawReader_operator 12 rfl) ?_
    refine j_mmax (wr_lit rfl) (rfl) rfl lk_LawReader_166 (by decide) (Nat.le_of_ble_eq_true rfl) (D_LawReader_operator 13 rfl) ?_
    refine j_putI rfl fa_LawReader_123 kd_21 lc_21 (by decide) rfl (D_LawReader_operator 14 rfl) ?_
    refine j_gen (fun G2 e9 => ?_)
    replace h := wG_at h e9
    refine j_aloadn (k := 0) (D_LawReader_operator 15 rfl) rfl rfl ?_
    refine j_dup (D_LawReader_operator 16 rfl) rfl ?_
    refine j_getI rfl fa_LawReader_129 kd_21 lc_21 (by decide) rfl (D_LawReader_operator 17 rfl) ?_
    refine j_iconst (v := 1) (D_LawReader_operator 18 rfl) rfl ?_
    refine j_isub (D_LawReader_operator 19 rfl) ?_
    refine j_putI rfl fa_LawReader_129 kd_21 lc_21 (by decide) rfl (D_LawReader_operator 20 rfl) ?_
    refine j_gen (fun G3 e10 => ?_)
    replace h := wG_at h e10
    refine j_aloadn (k := 0) (D_LawReader_operator 21 rfl) rfl rfl ?_
    refine j_iloadn (k := 1) (D_LawReader_operator 22 rfl) rfl rfl ?_
    obtain ⟨q8, e11, h⟩ := Option.bind_eq_some_iff.mp h
    refine j_cVv (c_LawReader_goBehind (ha1) e11) rfl lk_LawReader_156 mok_LawReader_goBehind kd_21 lc_21 rfl (by decide) rfl rfl (Nat.le_of_ble_eq_true rfl) (D_LawReader_operator 23 rfl) ?_
    refine j_iconst (v := 0) (D_LawReader_operator 24 rfl) rfl ?_
    exact j_zret (D_LawReader_operator 25 rfl) rfl (wr_lit rfl) (nz_01 (by decide)) rfl rfl (leafZ h (wr_n (wr_lit rfl)) (by decide))
abbrev M_LawReader_formula : MI := (⟨"InquestHall$LawReader", "formula", "(Z)V"⟩, prog_6_method_10_code, 6, none)
theorem cw_LawReader_formula : Cond.code M_LawReader_formula.1 M_LawReader_formula.2.1 M_LawReader_formula.2.2.1 M_LawReader_formula.2.2.2 ∈ TS := mTS (List.mem_of_getElem? (i := 850) (by decide +kernel)) (by decide +kernel)
theorem lk_LawReader_141 : Cond.methodLink "InquestHall$LawReader" 141 M_LawReader_mayFollow.1 ∈ TS := mTS (List.mem_of_getElem? (i := 875) (by decide +kernel)) (by decide +kernel)
theorem mok_LawReader_mayFollow : MOK M_LawReader_mayFollow 1 := ⟨mTS (List.mem_of_getElem? (i := 877) (by decide +kernel)) (by decide +kernel), mTS (List.mem_of_getElem? (i := 17) (by decide +kernel)) (by decide +kernel), mTS (List.mem_of_getElem? (i := 130) (by decide +kernel)) (by decide +kernel), cw_LawReader_mayFollow, ⟨by decide, by decide, by decide +kernel⟩, by decide +kernel, by decide⟩
theorem lk_LawReader_144 : Cond.methodLink "InquestHall$LawReader" 144 M_LawReader_operator.1 ∈ TS := mTS (List.mem_of_getElem? (i := 879) (by decide +kernel)) (by decide +kernel)
theorem mok_LawReader_operator : MOK M_LawReader_operator 1 := ⟨mTS (List.mem_of_getElem? (i := 881) (by decide +kernel)) (by decide +kernel), mTS (List.mem_of_getElem? (i := 18) (by decide +kernel)) (by decide +kernel), mTS (List.mem_of_getElem? (i := 130) (by decide +kernel)) (by decide +kernel), cw_LawReader_operator, ⟨by decide, by decide, by decide +kernel⟩, by decide +kernel, by decide⟩
theorem lk_LawReader_138 : Cond.methodLink "InquestHall$LawReader" 138 M_LawReader_operand.1 ∈ TS := mTS (List.mem_of_getElem? (i := 851) (by decide +kernel)) (by decide +kernel)
theorem mok_LawReader_operand : MOK M_LawReader_operand 1 := ⟨mTS (List.mem_of_getElem? (i := 853) (by decide +kernel)) (by decide +kernel), mTS (List.mem_of_getElem? (i := 13) (by decide +kernel)) (by decide +kernel), mTS (List.mem_of_getElem? (i := 130) (by decide +kernel)) (by decide +kernel), cw_LawReader_operand, ⟨by decide, by decide, by decide +kernel⟩, by decide +kernel, by decide⟩
def tb_LawReader_formula : List (Nat × Instr × Nat) := [(0, .aload_n 0, 1), (1, .iload_n 1, 1), (2, .putfield 119, 3), (5, .aload_n 0, 1), (6, .iconst 0, 1), (7, .putfield 123, 3), (10, .aload_n 0, 1), (11, .iconst 0, 1), (12, .putfield 126, 3), (15, .aload_n 0, 1), (16, .iconst 0, 1), (17, .putfield 129, 3), (20, .aload_n 0, 1), (21, .iconst 0, 1), (22, .putfield 132, 3), (25, .aload_n 0, 1), (26, .iconst 0, 1), (27, .putfield 135, 3), (30, .iconst 1, 1), (31, .istore_n 2, 1), (32, .iconst 1, 1), (33, .istore_n 3, 1), (34, .iconst 0, 1), (35, .istore 4, 2), (37, .iload 4, 2), (39, .sipush 800, 3), (42, .if_icmp .gt 67, 3), (45, .iload_n 3, 1), (46, .ifCond .eq 63, 3), (49, .aload_n 0, 1), (50, .getfield 15, 3), (53, .getfield 30, 3), (56, .ifCond .ne 53, 3), (59, .aload_n 0, 1), (60, .getfield 15, 3), (63, .invokevirtual 34, 3), (66, .istore 5, 2), (68, .iload_n 2, 1), (69, .ifCond .eq 13, 3), (72, .aload_n 0, 1), (73, .iload 5, 2), (75, .invokevirtual 138, 3), (78, .istore_n 2, 1), (79, .goto 24, 3), (82, .aload_n 0, 1), (83, .iload 5, 2), (85, .invokevirtual 141, 3), (88, .ifCond .eq 13, 3), (91, .aload_n 0, 1), (92, .iload 5, 2), (94, .invokevirtual 144, 3), (97, .istore_n 2, 1), (98, .goto 5, 3), (101, .iconst 0, 1), (102, .istore_n 3, 1), (103, .iinc 4 1, 3), (106, .goto (-69), 3), (109, .aload_n 0, 1), (110, .getfield 129, 3), (113, .ifCond .gt 17, 3), (116, .aload_n 0, 1), (117, .getfield 119, 3), (120, .ifCond .eq 18, 3), (123, .aload_n 0, 1), (124, .getfield 135, 3), (127, .ifCond .ne 11, 3), (130, .aload_n 0, 1), (131, .getfield 15, 3), (134, .iconst 1, 1), (135, .invokevirtual 42, 3), (138, .aload_n 0, 1), (139, .bipush 127, 2), (141, .invokestatic 147, 3), (144, .invokevirtual 150, 3), (147, .return_, 1)]
theorem D_LawReader_formula (i : Nat) {pc len : Nat} {ins : Instr} (hi : tb_LawReader_formula[i]? = some (pc, ins, len)) : decode M_LawReader_formula.2.1 pc = .ok (ins, len) := dec_of (by decide +kernel) i hi
def f_LawReader_formula_L138 (G : GS) : Option (GS) :=
  (f_LawReader_rank G 127).bind fun q1 =>
  (f_LawReader_settle G q1).bind fun q2 =>
  some q2
theorem s_LawReader_formula_L138 {X : XT} {r : GS} : ∀ {G : GS}, f_LawReader_formula_L138 G = some r → J X true 10 0 0 M_LawReader_formula (Rv r) NC 0 0 138 [(0, rf X 21)] [] G := by
  intro G h
  unfold f_LawReader_formula_L138 at h
  refine j_aloadn (k := 0) (D_LawReader_formula 70 rfl) rfl rfl ?_
  refine j_bipush (v := 127) (D_LawReader_formula 71 rfl) rfl ?_
  obtain ⟨q1, e1, h⟩ := Option.bind_eq_some_iff.mp h
  refine j_cSi (c_LawReader_rank (wr_lit rfl) e1) rfl lk_LawReader_147 sok_LawReader_rank (by decide) rfl rfl (Nat.le_of_ble_eq_true rfl) (D_LawReader_formula 72 rfl) (fun w1 => ?_)
  obtain ⟨q2, e2, h⟩ := Option.bind_eq_some_iff.mp h
  refine j_cVv (c_LawReader_settle (w1) e2) rfl lk_LawReader_150 mok_LawReader_settle kd_21 lc_21 rfl (by decide) rfl rfl (Nat.le_of_ble_eq_true rfl) (D_LawReader_formula 73 rfl) ?_
  exact j_vret (D_LawReader_formula 74 rfl) rfl rfl rfl (leafV h)
def f_LawReader_formula_L130 (G : GS) : Option (GS) :=
  (f_Text_fail G 1).bind fun q1 =>
  f_LawReader_formula_L138 q1
theorem s_LawReader_formula_L130 {X : XT} {r : GS} : ∀ {G : GS}, f_LawReader_formula_L130 G = some r → J X true 10 0 0 M_LawReader_formula (Rv r) NC 0 0 130 [(0, rf X 21)] [] G := by
  intro G h
  unfold f_LawReader_formula_L130 at h
  refine j_aloadn (k := 0) (D_LawReader_formula 66 rfl) rfl rfl ?_
  refine j_getR rfl fa_LawReader_15 kd_21 lc_21 (by decide) rfl fx_21_0 (by decide) (D_LawReader_formula 67 rfl) ?_
  refine j_iconst (v := 1) (D_LawReader_formula 68 rfl) rfl ?_
  obtain ⟨q1, e1, h⟩ := Option.bind_eq_some_iff.mp h
  refine j_cVv (c_Text_fail (wr_lit rfl) e1) rfl lk_LawReader_42 mok_Text_fail kd_15 lc_15 rfl (by decide) rfl rfl (Nat.le_of_ble_eq_true rfl) (D_LawReader_formula 69 rfl) ?_
  refine j_loc [0] rfl ?_
  exact s_LawReader_formula_L138 h
def f_LawReader_formula_L109 (G : GS) : Option (GS) :=
  if 0 < gi G 21 5 then
    f_LawReader_formula_L130 G
  else
    if gi G 21 7 = 0 then
      f_LawReader_formula_L138 G
    else
      if gi G 21 8 = 0 then
        f_LawReader_formula_L130 G
      else
        f_LawReader_formula_L138 G
theorem s_LawReader_formula_L109 {X : XT} {r : GS} : ∀ {G : GS}, f_LawReader_formula_L109 G = some r → J X true 10 0 0 M_LawReader_formula (Rv r) NC 0 0 109 [(0, rf X 21)] [] G := by
  intro G h
  unfold f_LawReader_formula_L109 at h
  refine j_aloadn (k := 0) (D_LawReader_formula 57 rfl) rfl rfl ?_
  refine j_getI rfl fa_LawReader_129 kd_21 lc_21 (by decide) rfl (D_LawReader_formula 58 rfl) ?_
  refine j_if_gt (tgt := 130) (D_LawReader_formula 59 rfl) rfl (wr_gi _ _ _) (fun c1 => ?_) (fun c1 => ?_)
  · replace h := ite_t h c1
    refine j_loc [0] rfl ?_
    exact s_LawReader_formula_L130 h
  · replace h := ite_f h c1
    refine j_aloadn (k := 0) (D_LawReader_formula 60 rfl) rfl rfl ?_
    refine j_getI rfl fa_LawReader_119 kd_21 lc_21 (by decide) rfl (D_LawReader_formula 61 rfl) ?_
    refine j_if_eq (tgt := 138) (D_LawReader_formula 62 rfl) rfl (wr_gi _ _ _) (fun c2 => ?_) (fun c2 => ?_)
    · replace h := ite_t h c2
      refine j_loc [0] rfl ?_
      exact s_LawReader_formula_L138 h
    · replace h := ite_f h c2
      refine j_aloadn (k := 0) (D_LawReader_formula 63 rfl) rfl rfl ?_
      refine j_getI rfl fa_LawReader_135 kd_21 lc_21 (by decide) rfl (D_LawReader_formula 64 rfl) ?_
      refine j_if_ne (tgt := 138) (D_LawReader_formula 65 rfl) rfl (wr_gi _ _ _) (fun c3 => ?_) (fun c3 => ?_)
      · replace h := ite_f h c3
        refine j_loc [0] rfl ?_
        exact s_LawReader_formula_L138 h
      · replace h := ite_t h c3
        refine j_loc [0] rfl ?_
        exact s_LawReader_formula_L130 h
def f_LawReader_formula_L103 (k37 : GS → Int → Int → Int → Option (GS)) (G : GS) (x2 : Int) (x3 : Int) (x4 : Int) : Option (GS) :=
  k37 G x2 x3 (wr (x4 + 1))
theorem s_LawReader_formula_L103 {X : XT} {r : GS} {k37 : GS → Int → Int → Int → Option (GS)} (hk37 : ∀ {G : GS} {x2 : Int} {x3 : Int} {x4 : Int} , wr x2 = x2 → wr x3 = x3 → wr x4 = x4 → k37 G x2 x3 x4 = some r → J X true 10 0 0 M_LawReader_formula (Rv r) NC 0 0 37 [(0, rf X 21), (2, vi x2), (3, vi x3), (4, vi x4)] [] G) : ∀ {G : GS} {x2 : Int} {x3 : Int} {x4 : Int}, wr x2 = x2 → wr x3 = x3 → wr x4 = x4 → f_LawReader_formula_L103 k37 G x2 x3 x4 = some r → J X true 10 0 0 M_LawReader_formula (Rv r) NC 0 0 103 [(0, rf X 21), (2, vi x2), (3, vi x3), (4, vi x4)] [] G := by
  intro G x2 x3 x4 hx2 hx3 hx4 h
  unfold f_LawReader_formula_L103 at h
  refine j_iinc (k := 3) (L' := [(4, vi (wr (x4 + 1))), (0, rf X 21), (2, vi x2), (3, vi x3)]) (D_LawReader_formula 55 rfl) rfl rfl (by decide) rfl ?_
  refine j_goto (tgt := 37) (D_LawReader_formula 56 rfl) rfl ?_
  refine j_loc [1, 2, 3, 0] rfl ?_
  exact hk37 (hx2) (hx3) (wr_wr _) h
def f_LawReader_formula_L37 : Nat → GS → Int → Int → Int → Option (GS)
  | 0, _, _, _, _ => none
  | n + 1, G, x2, x3, x4 =>
    if 800 < x4 then
      f_LawReader_formula_L109 G
    else
      if x3 = 0 then
        f_LawReader_formula_L109 G
      else
        if gi G 15 8 = 0 then
          (f_Text_kind G).bind fun q1 =>
          if x2 = 0 then
            (f_LawReader_mayFollow G q1).bind fun q2 =>
            if q2 = 0 then
              f_LawReader_formula_L103 (f_LawReader_formula_L37 n) G x2 0 x4
            else
              (f_LawReader_operator G q1).bind fun q3 =>
              f_LawReader_formula_L103 (f_LawReader_formula_L37 n) q3.2 q3.1 x3 x4
          else
            (f_LawReader_operand G q1).bind fun q4 =>
            f_LawReader_formula_L103 (f_LawReader_formula_L37 n) q4.2 q4.1 x3 x4
        else
          f_LawReader_formula_L109 G
theorem s_LawReader_formula_L37 {X : XT} {r : GS} : ∀ (n : Nat) {G : GS} {x2 : Int} {x3 : Int} {x4 : Int}, wr x2 = x2 → wr x3 = x3 → wr x4 = x4 → f_LawReader_formula_L37 n G x2 x3 x4 = some r → J X true 10 0 0 M_LawReader_formula (Rv r) NC 0 0 37 [(0, rf X 21), (2, vi x2), (3, vi x3), (4, vi x4)] [] G := by
  intro n
  induction n with
  | zero =>
    intro G x2 x3 x4 hx2 hx3 hx4 h
    exact none_some h
  | succ n ih =>
    intro G x2 x3 x4 hx2 hx3 hx4 h
    rw [f_LawReader_formula_L37] at h
    refine j_iload (k := 3) (D_LawReader_formula 24 rfl) rfl ?_
    refine j_sipush (v := 800) (D_LawReader_formula 25 rfl) rfl ?_
    refine j_ic_gt (tgt := 109) (D_LawReader_formula 26 rfl) rfl (hx4) (wr_lit rfl) (fun c1 => ?_) (fun c1 => ?_)
    · replace h := ite_t h c1
      refine j_loc [0] rfl ?_
      exact s_LawReader_formula_L109 h
    · replace h := ite_f h c1
      refine j_iloadn (k := 2) (D_LawReader_formula 27 rfl) rfl rfl ?_
      refine j_if_eq (tgt := 109) (D_LawReader_formula 28 rfl) rfl (hx3) (fun c2 => ?_) (fun c2 => ?_)
      · replace h := ite_t h c2
        refine j_loc [0] rfl ?_
        exact s_LawReader_formula_L109 h
      · replace h := ite_f h c2
        refine j_aloadn (k := 0) (D_LawReader_formula 29 rfl) rfl rfl ?_
        refine j_getR rfl fa_LawReader_15 kd_21 lc_21 (by decide) rfl fx_21_0 (by decide) (D_LawReader_formula 30 rfl) ?_
        refine j_getI rfl fa_LawReader_30 kd_15 lc_15 (by decide) rfl (D_LawReader_formula 31 rfl) ?_
        refine j_if_ne (tgt := 109) (D_LawReader_formula 32 rfl) rfl (wr_gi _ _ _) (fun c3 => ?_) (fun c3 => ?_)
        · replace h := ite_f h c3
          refine j_loc [0] rfl ?_
          exact s_LawReader_formula_L109 h
        · replace h := ite_t h c3
          refine j_aloadn (k := 0) (D_LawReader_formula 33 rfl) rfl rfl ?_
          refine j_getR rfl fa_LawReader_15 kd_21 lc_21 (by decide) rfl fx_21_0 (by decide) (D_LawReader_formula 34 rfl) ?_
          obtain ⟨q1, e1, h⟩ := Option.bind_eq_some_iff.mp h
          refine j_cVi (c_Text_kind e1) rfl lk_LawReader_34 mok_Text_kind kd_15 lc_15 rfl (by decide) rfl rfl (Nat.le_of_ble_eq_true rfl) (D_LawReader_formula 35 rfl) (fun w1 => ?_)
          refine j_istore (L' := [(5, vi q1), (0, rf X 21), (2, vi x2), (3, vi x3), (4, vi x4)]) (D_LawReader_formula 36 rfl) (w1) (by decide) rfl ?_
          refine j_iloadn (k := 2) (D_LawReader_formula 37 rfl) rfl rfl ?_
          refine j_if_eq (tgt := 82) (D_LawReader_formula 38 rfl) rfl (hx2) (fun c4 => ?_) (fun c4 => ?_)
          · replace h := ite_t h c4
            refine j_aloadn (k := 1) (D_LawReader_formula 44 rfl) rfl rfl ?_
            refine j_iload (k := 0) (D_LawReader_formula 45 rfl) rfl ?_
            obtain ⟨q2, e2, h⟩ := Option.bind_eq_some_iff.mp h
            refine j_cVz (c_LawReader_mayFollow (w1) e2) rfl lk_LawReader_141 mok_LawReader_mayFollow kd_21 lc_21 rfl (by decide) rfl rfl (Nat.le_of_ble_eq_true rfl) (D_LawReader_formula 46 rfl) (fun w2 bw2 => ?_)
            refine j_if_eq (tgt := 101) (D_LawReader_formula 47 rfl) rfl (w2) (fun c5 => ?_) (fun c5 => ?_)
            · replace h := ite_t h c5
              refine j_iconst (v := 0) (D_LawReader_formula 53 rfl) rfl ?_
              refine j_istoren (L' := [(3, vi 0), (5, vi q1), (0, rf X 21), (2, vi x2), (4, vi x4)]) (D_LawReader_formula 54 rfl) rfl (wr_lit rfl) (by decide) rfl ?_
              refine j_loc [2, 3, 0, 4] rfl ?_
              exact s_LawReader_formula_L103 ih (hx2) (wr_lit rfl) (hx4) h
            · replace h := ite_f h c5
              refine j_aloadn (k := 1) (D_LawReader_formula 48 rfl) rfl rfl ?_
              refine j_iload (k := 0) (D_LawReader_formula 49 rfl) rfl ?_
              obtain ⟨q3, e3, h⟩ := Option.bind_eq_some_iff.mp h
              refine j_cVz (c_LawReader_operator (w1) e3) rfl lk_LawReader_144 mok_LawReader_operator kd_21 lc_21 rfl (by decide) rfl rfl (Nat.le_of_ble_eq_true rfl) (D_LawReader_formula 50 rfl) (fun w3 bw3 => ?_)
              refine j_istoren (L' := [(2, vi q3.1), (5, vi q1), (0, rf X 21), (3, vi x3), (4, vi x4)]) (D_LawReader_formula 51 rfl) rfl (w3) (by decide) rfl ?_
              refine j_goto (tgt := 103) (D_LawReader_formula 52 rfl) rfl ?_
              refine j_loc [2, 0, 3, 4] rfl ?_
              exact s_LawReader_formula_L103 ih (w3) (hx3) (hx4) h
          · replace h := ite_f h c4
            refine j_aloadn (k := 1) (D_LawReader_formula 39 rfl) rfl rfl ?_
            refine j_iload (k := 0) (D_LawReader_formula 40 rfl) rfl ?_
            obtain ⟨q4, e4, h⟩ := Option.bind_eq_some_iff.mp h
            refine j_cVz (c_LawReader_operand (w1) e4) rfl lk_LawReader_138 mok_LawReader_operand kd_21 lc_21 rfl (by decide) rfl rfl (Nat.le_of_ble_eq_true rfl) (D_LawReader_formula 41 rfl) (fun w4 bw4 => ?_)
            refine j_istoren (L' := [(2, vi q4.1), (5, vi q1), (0, rf X 21), (3, vi x3), (4, vi x4)]) (D_LawReader_formula 42 rfl) rfl (w4) (by decide) rfl ?_
            refine j_goto (tgt := 103) (D_LawReader_formula 43 rfl) rfl ?_
            refine j_loc [2, 0, 3, 4] rfl ?_
            exact s_LawReader_formula_L103 ih (w4) (hx3) (hx4) h
def f_LawReader_formula (G : GS) (a1 : Int) : Option (GS) :=
  gd (a1 = 0 ∨ a1 = 1) <|
  wG (si G 21 7 a1) fun G1 =>
  wG (si G1 21 3 0) fun G2 =>
  wG (si G2 21 4 0) fun G3 =>
  wG (si G3 21 5 0) fun G4 =>
  wG (si G4 21 6 0) fun G5 =>
  wG (si G5 21 8 0) fun G6 =>
  f_LawReader_formula_L37 FU G6 1 1 0
theorem c_LawReader_formula {X : XT} {G : GS} {a1 : Int} {r : GS} (ha1 : wr a1 = a1) (h : f_LawReader_formula G a1 = some r) : Call X true 10 0 0 M_LawReader_formula [rf X 21, vi a1] NC G (Rv r) := by
  refine Call_of_J cw_LawReader_formula (by decide +kernel) (Nat.le_of_ble_eq_true rfl) ?_
  unfold f_LawReader_formula at h
  show J X true 10 0 0 M_LawReader_formula (Rv r) NC 0 0 0 [(0, rf X 21), (1, vi a1)] [] G
  refine j_aloadn (k := 0) (D_LawReader_formula 0 rfl) rfl rfl ?_
  refine j_iloadn (k := 1) (D_LawReader_formula 1 rfl) rfl rfl ?_
  have g1 := gd_c h
  replace h := gd_s h
  refine j_putZ rfl fa_LawReader_119 kd_21 lc_21 (by decide) rfl (ha1) g1 (D_LawReader_formula 2 rfl) ?_
  refine j_gen (fun G1 e1 => ?_)
  replace h := wG_at h e1
  refine j_aloadn (k := 0) (D_LawReader_formula 3 rfl) rfl rfl ?_
  refine j_iconst (v := 0) (D_LawReader_formula 4 rfl) rfl ?_
  refine j_putI rfl fa_LawReader_123 kd_21 lc_21 (by decide) rfl (D_LawReader_formula 5 rfl) ?_
  refine j_gen (fun G2 e2 => ?_)
  replace h := wG_at h e2
  refine j_aloadn (k := 0) (D_LawReader_formula 6 rfl) rfl rfl ?_
  refine j_iconst (v := 0) (D_LawReader_formula 7 rfl) rfl ?_
  refine j_putI rfl fa_LawReader_126 kd_21 lc_21 (by decide) rfl (D_LawReader_formula 8 rfl) ?_
  refine j_gen (fun G3 e3 => ?_)
  replace h := wG_at h e3
  refine j_aloadn (k := 0) (D_LawReader_formula 9 rfl) rfl rfl ?_
  refine j_iconst (v := 0) (D_LawReader_formula 10 rfl) rfl ?_
  refine j_putI rfl fa_LawReader_129 kd_21 lc_21 (by decide) rfl (D_LawReader_formula 11 rfl) ?_
  refine j_gen (fun G4 e4 => ?_)
  replace h := wG_at h e4
  refine j_aloadn (k := 0) (D_LawReader_formula 12 rfl) rfl rfl ?_
  refine j_iconst (v := 0) (D_LawReader_formula 13 rfl) rfl ?_
  refine j_putI rfl fa_LawReader_132 kd_21 lc_21 (by decide) rfl (D_LawReader_formula 14 rfl) ?_
  refine j_gen (fun G5 e5 => ?_)
  replace h := wG_at h e5
  refine j_aloadn (k := 0) (D_LawReader_formula 15 rfl) rfl rfl ?_
  refine j_iconst (v := 0) (D_LawReader_formula 16 rfl) rfl ?_
  refine j_putZ rfl fa_LawReader_135 kd_21 lc_21 (by decide) rfl (wr_lit rfl) (by decide) (D_LawReader_formula 17 rfl) ?_
  refine j_gen (fun G6 e6 => ?_)
  replace h := wG_at h e6
  refine j_iconst (v := 1) (D_LawReader_formula 18 rfl) rfl ?_
  refine j_istoren (L' := [(2, vi 1), (0, rf X 21), (1, vi a1)]) (D_LawReader_formula 19 rfl) rfl (wr_lit rfl) (by decide) rfl ?_
  refine j_iconst (v := 1) (D_LawReader_formula 20 rfl) rfl ?_
  refine j_istoren (L' := [(3, vi 1), (2, vi 1), (0, rf X 21), (1, vi a1)]) (D_LawReader_formula 21 rfl) rfl (wr_lit rfl) (by decide) rfl ?_
  refine j_iconst (v := 0) (D_LawReader_formula 22 rfl) rfl ?_
  refine j_istore (L' := [(4, vi 0), (3, vi 1), (2, vi 1), (0, rf X 21), (1, vi a1)]) (D_LawReader_formula 23 rfl) (wr_lit rfl) (by decide) rfl ?_
  refine j_loc [3, 2, 1, 0] rfl ?_
  exact s_LawReader_formula_L37 FU (wr_lit rfl) (wr_lit rfl) (wr_lit rfl) h
abbrev M_LawReader_reliefLine : MI := (⟨"InquestHall$LawReader", "reliefLine", "()V"⟩, prog_6_method_8_code, 1, none)
theorem cw_LawReader_reliefLine : Cond.code M_LawReader_reliefLine.1 M_LawReader_reliefLine.2.1 M_LawReader_reliefLine.2.2.1 M_LawReader_reliefLine.2.2.2 ∈ TS := mTS (List.mem_of_getElem? (i := 846) (by decide +kernel)) (by decide +kernel)
theorem lk_LawReader_112 : Cond.methodLink "InquestHall$LawReader" 112 M_LawReader_formula.1 ∈ TS := mTS (List.mem_of_getElem? (i := 847) (by decide +kernel)) (by decide +kernel)
theorem mok_LawReader_formula : MOK M_LawReader_formula 1 := ⟨mTS (List.mem_of_getElem? (i := 849) (by decide +kernel)) (by decide +kernel), mTS (List.mem_of_getElem? (i := 12) (by decide +kernel)) (by decide +kernel), mTS (List.mem_of_getElem? (i := 130) (by decide +kernel)) (by decide +kernel), cw_LawReader_formula, ⟨by decide, by decide, by decide +kernel⟩, by decide +kernel, by decide⟩
def tb_LawReader_reliefLine : List (Nat × Instr × Nat) := [(0, .aload_n 0, 1), (1, .iconst 0, 1), (2, .invokevirtual 112, 3), (5, .aload_n 0, 1), (6, .getfield 15, 3), (9, .bipush 126, 2), (11, .invokevirtual 81, 3), (14, .ifCond .eq 20, 3), (17, .aload_n 0, 1), (18, .iconst 1, 1), (19, .invokevirtual 112, 3), (22, .aload_n 0, 1), (23, .getfield 19, 3), (26, .bipush (-126), 2), (28, .invokevirtual 116, 3), (31, .goto 12, 3), (34, .aload_n 0, 1), (35, .getfield 19, 3), (38, .bipush (-120), 2), (40, .invokevirtual 116, 3), (43, .return_, 1)]
theorem D_LawReader_reliefLine (i : Nat) {pc len : Nat} {ins : Instr} (hi : tb_LawReader_reliefLine[i]? = some (pc, ins, len)) : decode M_LawReader_reliefLine.2.1 pc = .ok (ins, len) := dec_of (by decide +kernel) i hi
def f_LawReader_reliefLine (G : GS) : Option (GS) :=
  (f_LawReader_formula G 0).bind fun q1 =>
  (f_Text_takeIf q1 126).bind fun q2 =>
  if q2.1 = 0 then
    gd (lawC (gp q2.2 21 1) = true) <|
    (f_Law_put q2.2 (gp q2.2 21 1) (-120)).bind fun q3 =>
    some q3
  else
    (f_LawReader_formula q2.2 1).bind fun q4 =>
    gd (lawC (gp q4 21 1) = true) <|
    (f_Law_put q4 (gp q4 21 1) (-126)).bind fun q5 =>
    some q5
theorem c_LawReader_reliefLine {X : XT} {G : GS} {r : GS} (h : f_LawReader_reliefLine G = some r) : Call X true 11 0 0 M_LawReader_reliefLine [rf X 21] NC G (Rv r) := by
  refine Call_of_J cw_LawReader_reliefLine (by decide +kernel) (Nat.le_of_ble_eq_true rfl) ?_
  unfold f_LawReader_reliefLine at h
  show J X true 11 0 0 M_LawReader_reliefLine (Rv r) NC 0 0 0 [(0, rf X 21)] [] G
  refine j_aloadn (k := 0) (D_LawReader_reliefLine 0 rfl) rfl rfl ?_
  refine j_iconst (v := 0) (D_LawReader_reliefLine 1 rfl) rfl ?_
  obtain ⟨q1, e1, h⟩ := Option.bind_eq_some_iff.mp h
  refine j_cVv (c_LawReader_formula (wr_lit rfl) e1) rfl lk_LawReader_112 mok_LawReader_formula kd_21 lc_21 rfl (by decide) rfl rfl (Nat.le_of_ble_eq_true rfl) (D_LawReader_reliefLine 2 rfl) ?_
  refine j_aloadn (k := 0) (D_LawReader_reliefLine 3 rfl) rfl rfl ?_
  refine j_getR rfl fa_LawReader_15 kd_21 lc_21 (by decide) rfl fx_21_0 (by decide) (D_LawReader_reliefLine 4 rfl) ?_
  refine j_bipush (v := 126) (D_LawReader_reliefLine 5 rfl) rfl ?_
  obtain ⟨q2, e2, h⟩ := Option.bind_eq_some_iff.mp h
  refine j_cVz (c_Text_takeIf (wr_lit rfl) e2) rfl lk_LawReader_81 mok_Text_takeIf kd_15 lc_15 rfl (by decide) rfl rfl (Nat.le_of_ble_eq_true rfl) (D_LawReader_reliefLine 6 rfl) (fun w1 bw1 => ?_)
  refine j_if_eq (tgt := 34) (D_LawReader_reliefLine 7 rfl) rfl (w1) (fun c1 => ?_) (fun c1 => ?_)
  · replace h := ite_t h c1
    refine j_aloadn (k := 0) (D_LawReader_reliefLine 16 rfl) rfl rfl ?_
    have g1 := gd_c h
    replace h := gd_s h
    refine j_getR rfl fa_LawReader_19 kd_21 lc_21 (by decide) rfl (fun _ => rfl) (law_kd g1).2.2 (D_LawReader_reliefLine 17 rfl) ?_
    refine j_bipush (v := (-120)) (D_LawReader_reliefLine 18 rfl) rfl ?_
    obtain ⟨q3, e3, h⟩ := Option.bind_eq_some_iff.mp h
    refine j_cVv (c_Law_put g1 (wr_lit rfl) e3) rfl lk_LawReader_116 mok_Law_put (law_kd g1).1 (law_kd g1).2.1 rfl (by decide) rfl rfl (Nat.le_of_ble_eq_true rfl) (D_LawReader_reliefLine 19 rfl) ?_
    exact j_vret (D_LawReader_reliefLine 20 rfl) rfl rfl rfl (leafV h)
  · replace h := ite_f h c1
    refine j_aloadn (k := 0) (D_LawReader_reliefLine 8 rfl) rfl rfl ?_
    refine j_iconst (v := 1) (D_LawReader_reliefLine 9 rfl) rfl ?_
    obtain ⟨q4, e4, h⟩ := Option.bind_eq_some_iff.mp h
    refine j_cVv (c_LawReader_formula (wr_lit rfl) e4) rfl lk_LawReader_112 mok_LawReader_formula kd_21 lc_21 rfl (by decide) rfl rfl (Nat.le_of_ble_eq_true rfl) (D_LawReader_reliefLine 10 rfl) ?_
    refine j_aloadn (k := 0) (D_LawReader_reliefLine 11 rfl) rfl rfl ?_
    have g2 := gd_c h
    replace h := gd_s h
    refine j_getR rfl fa_LawReader_19 kd_21 lc_21 (by decide) rfl (fun _ => rfl) (law_kd g2).2.2 (D_LawReader_reliefLine 12 rfl) ?_
    refine j_bipush (v := (-126)) (D_LawReader_reliefLine 13 rfl) rfl ?_
    obtain ⟨q5, e5, h⟩ := Option.bind_eq_some_iff.mp h
    refine j_cVv (c_Law_put g2 (wr_lit rfl) e5) rfl lk_LawReader_116 mok_Law_put (law_kd g2).1 (law_kd g2).2.1 rfl (by decide) rfl rfl (Nat.le_of_ble_eq_true rfl) (D_LawReader_reliefLine 14 rfl) ?_
    refine j_goto (tgt := 43) (D_LawReader_reliefLine 15 rfl) rfl ?_
    exact j_vret (D_LawReader_reliefLine 20 rfl) rfl rfl rfl (leafV h)
abbrev M_LawReader_kingLine : MI := (⟨"InquestHall$LawReader", "kingLine", "()V"⟩, prog_6_method_9_code, 1, none)
theorem cw_LawReader_kingLine : Cond.code M_LawReader_kingLine.1 M_LawReader_kingLine.2.1 M_LawReader_kingLine.2.2.1 M_LawReader_kingLine.2.2.2 ∈ TS := mTS (List.mem_of_getElem? (i := 896) (by decide +kernel)) (by decide +kernel)
def tb_LawReader_kingLine : List (Nat × Instr × Nat) := [(0, .aload_n 0, 1), (1, .getfield 15, 3), (4, .bipush 126, 2), (6, .invokevirtual 49, 3), (9, .aload_n 0, 1), (10, .iconst 1, 1), (11, .invokevirtual 112, 3), (14, .aload_n 0, 1), (15, .getfield 19, 3), (18, .bipush (-114), 2), (20, .invokevirtual 116, 3), (23, .return_, 1)]
theorem D_LawReader_kingLine (i : Nat) {pc len : Nat} {ins : Instr} (hi : tb_LawReader_kingLine[i]? = some (pc, ins, len)) : decode M_LawReader_kingLine.2.1 pc = .ok (ins, len) := dec_of (by decide +kernel) i hi
def f_LawReader_kingLine (G : GS) : Option (GS) :=
  (f_Text_take G 126).bind fun q1 =>
  (f_LawReader_formula q1 1).bind fun q2 =>
  gd (lawC (gp q2 21 1) = true) <|
  (f_Law_put q2 (gp q2 21 1) (-114)).bind fun q3 =>
  some q3
theorem c_LawReader_kingLine {X : XT} {G : GS} {r : GS} (h : f_LawReader_kingLine G = some r) : Call X true 11 0 0 M_LawReader_kingLine [rf X 21] NC G (Rv r) := by
  refine Call_of_J cw_LawReader_kingLine (by decide +kernel) (Nat.le_of_ble_eq_true rfl) ?_
  unfold f_LawReader_kingLine at h
  show J X true 11 0 0 M_LawReader_kingLine (Rv r) NC 0 0 0 [(0, rf X 21)] [] G
  refine j_aloadn (k := 0) (D_LawReader_kingLine 0 rfl) rfl rfl ?_
  refine j_getR rfl fa_LawReader_15 kd_21 lc_21 (by decide) rfl fx_21_0 (by decide) (D_LawReader_kingLine 1 rfl) ?_
  refine j_bipush (v := 126) (D_LawReader_kingLine 2 rfl) rfl ?_
  obtain ⟨q1, e1, h⟩ := Option.bind_eq_some_iff.mp h
  refine j_cVv (c_Text_take (wr_lit rfl) e1) rfl lk_LawReader_49 mok_Text_take kd_15 lc_15 rfl (by decide) rfl rfl (Nat.le_of_ble_eq_true rfl) (D_LawReader_kingLine 3 rfl) ?_
  refine j_aloadn (k := 0) (D_LawReader_kingLine 4 rfl) rfl rfl ?_
  refine j_iconst (v := 1) (D_LawReader_kingLine 5 rfl) rfl ?_
  obtain ⟨q2, e2, h⟩ := Option.bind_eq_some_iff.mp h
  refine j_cVv (c_LawReader_formula (wr_lit rfl) e2) rfl lk_LawReader_112 mok_LawReader_formula kd_21 lc_21 rfl (by decide) rfl rfl (Nat.le_of_ble_eq_true rfl) (D_LawReader_kingLine 6 rfl) ?_
  refine j_aloadn (k := 0) (D_LawReader_kingLine 7 rfl) rfl rfl ?_
  have g1 := gd_c h
  replace h := gd_s h
  refine j_getR rfl fa_LawReader_19 kd_21 lc_21 (by decide) rfl (fun _ => rfl) (law_kd g1).2.2 (D_LawReader_kingLine 8 rfl) ?_
  refine j_bipush (v := (-114)) (D_LawReader_kingLine 9 rfl) rfl ?_
  obtain ⟨q3, e3, h⟩ := Option.bind_eq_some_iff.mp h
  refine j_cVv (c_Law_put g1 (wr_lit rfl) e3) rfl lk_LawReader_116 mok_Law_put (law_kd g1).1 (law_kd g1).2.1 rfl (by decide) rfl rfl (Nat.le_of_ble_eq_true rfl) (D_LawReader_kingLine 10 rfl) ?_
  exact j_vret (D_LawReader_kingLine 11 rfl) rfl rfl rfl (leafV h)
abbrev M_LawReader_line : MI := (⟨"InquestHall$LawReader", "line", "(I)V"⟩, prog_6_method_4_code, 2, none)
theorem cw_LawReader_line : Cond.code M_LawReader_line.1 M_LawReader_line.2.1 M_LawReader_line.2.2.1 M_LawReader_line.2.2.2 ∈ TS := mTS (List.mem_of_getElem? (i := 799) (by decide +kernel)) (by decide +kernel)
theorem lk_LawReader_52 : Cond.methodLink "InquestHall$LawReader" 52 M_LawReader_heirsLine.1 ∈ TS := mTS (List.mem_of_getElem? (i := 814) (by decide +kernel)) (by decide +kernel)
theorem mok_LawReader_heirsLine : MOK M_LawReader_heirsLine 0 := ⟨mTS (List.mem_of_getElem? (i := 816) (by decide +kernel)) (by decide +kernel), mTS (List.mem_of_getElem? (i := 8) (by decide +kernel)) (by decide +kernel), mTS (List.mem_of_getElem? (i := 130) (by decide +kernel)) (by decide +kernel), cw_LawReader_heirsLine, ⟨by decide, by decide, by decide +kernel⟩, by decide +kernel, by decide⟩
theorem lk_LawReader_74 : Cond.methodLink "InquestHall$LawReader" 74 M_LawReader_kingLine.1 ∈ TS := mTS (List.mem_of_getElem? (i := 893) (by decide +kernel)) (by decide +kernel)
theorem mok_LawReader_kingLine : MOK M_LawReader_kingLine 0 := ⟨mTS (List.mem_of_getElem? (i := 895) (by decide +kernel)) (by decide +kernel), mTS (List.mem_of_getElem? (i := 20) (by decide +kernel)) (by decide +kernel), mTS (List.mem_of_getElem? (i := 130) (by decide +kernel)) (by decide +kernel), cw_LawReader_kingLine, ⟨by decide, by decide, by decide +kernel⟩, by decide +kernel, by decide⟩
theorem lk_LawReader_55 : Cond.methodLink "InquestHall$LawReader" 55 M_LawReader_wardLine.1 ∈ TS := mTS (List.mem_of_getElem? (i := 833) (by decide +kernel)) (by decide +kernel)
theorem mok_LawReader_wardLine : MOK M_LawReader_wardLine 0 := ⟨mTS (List.mem_of_getElem? (i := 835) (by decide +kernel)) (by decide +kernel), mTS (List.mem_of_getElem? (i := 9) (by decide +kernel)) (by decide +kernel), mTS (List.mem_of_getElem? (i := 130) (by decide +kernel)) (by decide +kernel), cw_LawReader_wardLine, ⟨by decide, by decide, by decide +kernel⟩, by decide +kernel, by decide⟩
theorem lk_LawReader_58 : Cond.methodLink "InquestHall$LawReader" 58 M_LawReader_dowerLine.1 ∈ TS := mTS (List.mem_of_getElem? (i := 837) (by decide +kernel)) (by decide +kernel)
theorem mok_LawReader_dowerLine : MOK M_LawReader_dowerLine 0 := ⟨mTS (List.mem_of_getElem? (i := 839) (by decide +kernel)) (by decide +kernel), mTS (List.mem_of_getElem? (i := 10) (by decide +kernel)) (by decide +kernel), mTS (List.mem_of_getElem? (i := 130) (by decide +kernel)) (by decide +kernel), cw_LawReader_dowerLine, ⟨by decide, by decide, by decide +kernel⟩, by decide +kernel, by decide⟩
theorem fa_LawReader_65 : FA "InquestHall$LawReader" 65 11 6 false .int := ⟨_, _, _, _, ok_Law, by decide, mTS (List.mem_of_getElem? (i := 562) (by decide +kernel)) (by decide +kernel), rfl, rfl⟩
theorem fa_LawReader_68 : FA "InquestHall$LawReader" 68 11 7 false .int := ⟨_, _, _, _, ok_Law, by decide, mTS (List.mem_of_getElem? (i := 565) (by decide +kernel)) (by decide +kernel), rfl, rfl⟩
theorem lk_LawReader_71 : Cond.methodLink "InquestHall$LawReader" 71 M_LawReader_reliefLine.1 ∈ TS := mTS (List.mem_of_getElem? (i := 843) (by decide +kernel)) (by decide +kernel)
theorem mok_LawReader_reliefLine : MOK M_LawReader_reliefLine 0 := ⟨mTS (List.mem_of_getElem? (i := 845) (by decide +kernel)) (by decide +kernel), mTS (List.mem_of_getElem? (i := 11) (by decide +kernel)) (by decide +kernel), mTS (List.mem_of_getElem? (i := 130) (by decide +kernel)) (by decide +kernel), cw_LawReader_reliefLine, ⟨by decide, by decide, by decide +kernel⟩, by decide +kernel, by decide⟩
def tb_LawReader_line : List (Nat × Instr × Nat) := [(0, .aload_n 0, 1), (1, .getfield 15, 3), (4, .iload_n 1, 1), (5, .invokevirtual 49, 3), (8, .iload_n 1, 1), (9, .tableswitch 147 105 120 #[79, 147, 147, 147, 147, 147, 147, 147, 147, 147, 147, 86, 93, 100, 120, 140], 79), (88, .aload_n 0, 1), (89, .invokevirtual 52, 3), (92, .goto 68, 3), (95, .aload_n 0, 1), (96, .invokevirtual 55, 3), (99, .goto 61, 3), (102, .aload_n 0, 1), (103, .invokevirtual 58, 3), (106, .goto 54, 3), (109, .aload_n 0, 1), (110, .getfield 19, 3), (113, .aload_n 0, 1), (114, .getfield 15, 3), (117, .sipush 9999, 3), (120, .invokevirtual 61, 3), (123, .putfield 65, 3), (126, .goto 34, 3), (129, .aload_n 0, 1), (130, .getfield 19, 3), (133, .aload_n 0, 1), (134, .getfield 15, 3), (137, .sipush 9999, 3), (140, .invokevirtual 61, 3), (143, .putfield 68, 3), (146, .goto 14, 3), (149, .aload_n 0, 1), (150, .invokevirtual 71, 3), (153, .goto 7, 3), (156, .aload_n 0, 1), (157, .invokevirtual 74, 3), (160, .aload_n 0, 1), (161, .getfield 15, 3), (164, .bipush 59, 2), (166, .invokevirtual 49, 3), (169, .return_, 1)]
theorem D_LawReader_line (i : Nat) {pc len : Nat} {ins : Instr} (hi : tb_LawReader_line[i]? = some (pc, ins, len)) : decode M_LawReader_line.2.1 pc = .ok (ins, len) := dec_of (by decide +kernel) i hi
def f_LawReader_line_L160 (G : GS) : Option (GS) :=
  (f_Text_take G 59).bind fun q1 =>
  some q1
theorem s_LawReader_line_L160 {X : XT} {r : GS} : ∀ {G : GS}, f_LawReader_line_L160 G = some r → J X true 12 0 0 M_LawReader_line (Rv r) NC 0 0 160 [(0, rf X 21)] [] G := by
  intro G h
  unfold f_LawReader_line_L160 at h
  refine j_aloadn (k := 0) (D_LawReader_line 36 rfl) rfl rfl ?_
  refine j_getR rfl fa_LawReader_15 kd_21 lc_21 (by decide) rfl fx_21_0 (by decide) (D_LawReader_line 37 rfl) ?_
  refine j_bipush (v := 59) (D_LawReader_line 38 rfl) rfl ?_
  obtain ⟨q1, e1, h⟩ := Option.bind_eq_some_iff.mp h
  refine j_cVv (c_Text_take (wr_lit rfl) e1) rfl lk_LawReader_49 mok_Text_take kd_15 lc_15 rfl (by decide) rfl rfl (Nat.le_of_ble_eq_true rfl) (D_LawReader_line 39 rfl) ?_
  exact j_vret (D_LawReader_line 40 rfl) rfl rfl rfl (leafV h)
def f_LawReader_line (G : GS) (a1 : Int) : Option (GS) :=
  (f_Text_take G a1).bind fun q1 =>
  if a1 = 105 then
    (f_LawReader_heirsLine q1).bind fun q2 =>
    f_LawReader_line_L160 q2
  else
    if a1 = 106 then
      (f_LawReader_kingLine q1).bind fun q3 =>
      f_LawReader_line_L160 q3
    else
      if a1 = 107 then
        (f_LawReader_kingLine q1).bind fun q4 =>
        f_LawReader_line_L160 q4
      else
        if a1 = 108 then
          (f_LawReader_kingLine q1).bind fun q5 =>
          f_LawReader_line_L160 q5
        else
          if a1 = 109 then
            (f_LawReader_kingLine q1).bind fun q6 =>
            f_LawReader_line_L160 q6
          else
            if a1 = 110 then
              (f_LawReader_kingLine q1).bind fun q7 =>
              f_LawReader_line_L160 q7
            else
              if a1 = 111 then
                (f_LawReader_kingLine q1).bind fun q8 =>
                f_LawReader_line_L160 q8
              else
                if a1 = 112 then
                  (f_LawReader_kingLine q1).bind fun q9 =>
                  f_LawReader_line_L160 q9
                else
                  if a1 = 113 then
                    (f_LawReader_kingLine q1).bind fun q10 =>
                    f_LawReader_line_L160 q10
                  else
                    if a1 = 114 then
                      (f_LawReader_kingLine q1).bind fun q11 =>
                      f_LawReader_line_L160 q11
                    else
                      if a1 = 115 then
                        (f_LawReader_kingLine q1).bind fun q12 =>
                        f_LawReader_line_L160 q12
                      else
                        if a1 = 116 then
                          (f_LawReader_wardLine q1).bind fun q13 =>
                          f_LawReader_line_L160 q13
                        else
                          if a1 = 117 then
                            (f_LawReader_dowerLine q1).bind fun q14 =>
                            f_LawReader_line_L160 q14
                          else
                            if a1 = 118 then
                              gd (lawC (gp q1 21 1) = true) <|
                              (f_Text_takeNumber q1 9999).bind fun q15 =>
                              wG (si q15.2 (gp q1 21 1) 6 q15.1) fun G1 =>
                              f_LawReader_line_L160 G1
                            else
                              if a1 = 119 then
                                gd (lawC (gp q1 21 1) = true) <|
                                (f_Text_takeNumber q1 9999).bind fun q16 =>
                                wG (si q16.2 (gp q1 21 1) 7 q16.1) fun G2 =>
                                f_LawReader_line_L160 G2
                              else
                                if a1 = 120 then
                                  (f_LawReader_reliefLine q1).bind fun q17 =>
                                  f_LawReader_line_L160 q17
                                else
                                  (f_LawReader_kingLine q1).bind fun q18 =>
                                  f_LawReader_line_L160 q18
theorem c_LawReader_line {X : XT} {G : GS} {a1 : Int} {r : GS} (ha1 : wr a1 = a1) (h : f_LawReader_line G a1 = some r) : Call X true 12 0 0 M_LawReader_line [rf X 21, vi a1] NC G (Rv r) := by
  refine Call_of_J cw_LawReader_line (by decide +kernel) (Nat.le_of_ble_eq_true rfl) ?_
  unfold f_LawReader_line at h
  show J X true 12 0 0 M_LawReader_line (Rv r) NC 0 0 0 [(0, rf X 21), (1, vi a1)] [] G
  refine j_aloadn (k := 0) (D_LawReader_line 0 rfl) rfl rfl ?_
  refine j_getR rfl fa_LawReader_15 kd_21 lc_21 (by decide) rfl fx_21_0 (by decide) (D_LawReader_line 1 rfl) ?_
  refine j_iloadn (k := 1) (D_LawReader_line 2 rfl) rfl rfl ?_
  obtain ⟨q1, e1, h⟩ := Option.bind_eq_some_iff.mp h
  refine j_cVv (c_Text_take (ha1) e1) rfl lk_LawReader_49 mok_Text_take kd_15 lc_15 rfl (by decide) rfl rfl (Nat.le_of_ble_eq_true rfl) (D_LawReader_line 3 rfl) ?_
  refine j_iloadn (k := 1) (D_LawReader_line 4 rfl) rfl rfl ?_
  by_cases c1 : a1 = 105
  · replace h := ite_t h c1
    refine j_tIn (tgt := 88) (D_LawReader_line 5 rfl) (ha1) c1 (by decide) (by decide) rfl rfl ?_
    refine j_aloadn (k := 0) (D_LawReader_line 6 rfl) rfl rfl ?_
    obtain ⟨q2, e2, h⟩ := Option.bind_eq_some_iff.mp h
    refine j_cVv (c_LawReader_heirsLine e2) rfl lk_LawReader_52 mok_LawReader_heirsLine kd_21 lc_21 rfl (by decide) rfl rfl (Nat.le_of_ble_eq_true rfl) (D_LawReader_line 7 rfl) ?_
    refine j_goto (tgt := 160) (D_LawReader_line 8 rfl) rfl ?_
    refine j_loc [0] rfl ?_
    exact s_LawReader_line_L160 h
  · replace h := ite_f h c1
    by_cases c2 : a1 = 106
    · replace h := ite_t h c2
      refine j_tIn (tgt := 156) (D_LawReader_line 5 rfl) (ha1) c2 (by decide) (by decide) rfl rfl ?_
      refine j_aloadn (k := 0) (D_LawReader_line 34 rfl) rfl rfl ?_
      obtain ⟨q3, e3, h⟩ := Option.bind_eq_some_iff.mp h
      refine j_cVv (c_LawReader_kingLine e3) rfl lk_LawReader_74 mok_LawReader_kingLine kd_21 lc_21 rfl (by decide) rfl rfl (Nat.le_of_ble_eq_true rfl) (D_LawReader_line 35 rfl) ?_
      refine j_loc [0] rfl ?_
      exact s_LawReader_line_L160 h
    · replace h := ite_f h c2
      by_cases c3 : a1 = 107
      · replace h := ite_t h c3
        refine j_tIn (tgt := 156) (D_LawReader_line 5 rfl) (ha1) c3 (by decide) (by decide) rfl rfl ?_
        refine j_aloadn (k := 0) (D_LawReader_line 34 rfl) rfl rfl ?_
        obtain ⟨q4, e4, h⟩ := Option.bind_eq_some_iff.mp h
        refine j_cVv (c_LawReader_kingLine e4) rfl lk_LawReader_74 mok_LawReader_kingLine kd_21 lc_21 rfl (by decide) rfl rfl (Nat.le_of_ble_eq_true rfl) (D_LawReader_line 35 rfl) ?_
        refine j_loc [0] rfl ?_
        exact s_LawReader_line_L160 h
      · replace h := ite_f h c3
        by_cases c4 : a1 = 108
        · replace h := ite_t h c4
          refine j_tIn (tgt := 156) (D_LawReader_line 5 rfl) (ha1) c4 (by decide) (by decide) rfl rfl ?_
          refine j_aloadn (k := 0) (D_LawReader_line 34 rfl) rfl rfl ?_
          obtain ⟨q5, e5, h⟩ := Option.bind_eq_some_iff.mp h
          refine j_cVv (c_LawReader_kingLine e5) rfl lk_LawReader_74 mok_LawReader_kingLine kd_21 lc_21 rfl (by decide) rfl rfl (Nat.le_of_ble_eq_true rfl) (D_LawReader_line 35 rfl) ?_
          refine j_loc [0] rfl ?_
          exact s_LawReader_line_L160 h
        · replace h := ite_f h c4
          by_cases c5 : a1 = 109
          · replace h := ite_t h c5
            refine j_tIn (tgt := 156) (D_LawReader_line 5 rfl) (ha1) c5 (by decide) (by decide) rfl rfl ?_
            refine j_aloadn (k := 0) (D_LawReader_line 34 rfl) rfl rfl ?_
            obtain ⟨q6, e6, h⟩ := Option.bind_eq_some_iff.mp h
            refine j_cVv (c_LawReader_kingLine e6) rfl lk_LawReader_74 mok_LawReader_kingLine kd_21 lc_21 rfl (by decide) rfl rfl (Nat.le_of_ble_eq_true rfl) (D_LawReader_line 35 rfl) ?_
            refine j_loc [0] rfl ?_
            exact s_LawReader_line_L160 h
          · replace h := ite_f h c5
            by_cases c6 : a1 = 110
            · replace h := ite_t h c6
              refine j_tIn (tgt := 156) (D_LawReader_line 5 rfl) (ha1) c6 (by decide) (by decide) rfl rfl ?_
              refine j_aloadn (k := 0) (D_LawReader_line 34 rfl) rfl rfl ?_
              obtain ⟨q7, e7, h⟩ := Option.bind_eq_some_iff.mp h
              refine j_cVv (c_LawReader_kingLine e7) rfl lk_LawReader_74 mok_LawReader_kingLine kd_21 lc_21 rfl (by decide) rfl rfl (Nat.le_of_ble_eq_true rfl) (D_LawReader_line 35 rfl) ?_
              refine j_loc [0] rfl ?_
              exact s_LawReader_line_L160 h
            · replace h := ite_f h c6
              by_cases c7 : a1 = 111
              · replace h := ite_t h c7
                refine j_tIn (tgt := 156) (D_LawReader_line 5 rfl) (ha1) c7 (by decide) (by decide) rfl rfl ?_
                refine j_aloadn (k := 0) (D_LawReader_line 34 rfl) rfl rfl ?_
                obtain ⟨q8, e8, h⟩ := Option.bind_eq_some_iff.mp h
                refine j_cVv (c_LawReader_kingLine e8) rfl lk_LawReader_74 mok_LawReader_kingLine kd_21 lc_21 rfl (by decide) rfl rfl (Nat.le_of_ble_eq_true rfl) (D_LawReader_line 35 rfl) ?_
                refine j_loc [0] rfl ?_
                exact s_LawReader_line_L160 h
              · replace h := ite_f h c7
                by_cases c8 : a1 = 112
                · replace h := ite_t h c8
                  refine j_tIn (tgt := 156) (D_LawReader_line 5 rfl) (ha1) c8 (by decide) (by decide) rfl rfl ?_
                  refine j_aloadn (k := 0) (D_LawReader_line 34 rfl) rfl rfl ?_
                  obtain ⟨q9, e9, h⟩ := Option.bind_eq_some_iff.mp h
                  refine j_cVv (c_LawReader_kingLine e9) rfl lk_LawReader_74 mok_LawReader_kingLine kd_21 lc_21 rfl (by decide) rfl rfl (Nat.le_of_ble_eq_true rfl) (D_LawReader_line 35 rfl) ?_
                  refine j_loc [0] rfl ?_
                  exact s_LawReader_line_L160 h
                · replace h := ite_f h c8
                  by_cases c9 : a1 = 113
                  · replace h := ite_t h c9
                    refine j_tIn (tgt := 156) (D_LawReader_line 5 rfl) (ha1) c9 (by decide) (by decide) rfl rfl ?_
                    refine j_aloadn (k := 0) (D_LawReader_line 34 rfl) rfl rfl ?_
                    obtain ⟨q10, e10, h⟩ := Option.bind_eq_some_iff.mp h
                    refine j_cVv (c_LawReader_kingLine e10) rfl lk_LawReader_74 mok_LawReader_kingLine kd_21 lc_21 rfl (by decide) rfl rfl (Nat.le_of_ble_eq_true rfl) (D_LawReader_line 35 rfl) ?_
                    refine j_loc [0] rfl ?_
                    exact s_LawReader_line_L160 h
                  · replace h := ite_f h c9
                    by_cases c10 : a1 = 114
                    · replace h := ite_t h c10
                      refine j_tIn (tgt := 156) (D_LawReader_line 5 rfl) (ha1) c10 (by decide) (by decide) rfl rfl ?_
                      refine j_aloadn (k := 0) (D_LawReader_line 34 rfl) rfl rfl ?_
                      obtain ⟨q11, e11, h⟩ := Option.bind_eq_some_iff.mp h
                      refine j_cVv (c_LawReader_kingLine e11) rfl lk_LawReader_74 mok_LawReader_kingLine kd_21 lc_21 rfl (by decide) rfl rfl (Nat.le_of_ble_eq_true rfl) (D_LawReader_line 35 rfl) ?_
                      refine j_loc [0] rfl ?_
                      exact s_LawReader_line_L160 h
                    · replace h := ite_f h c10
                      by_cases c11 : a1 = 115
                      · replace h := ite_t h c11
                        refine j_tIn (tgt := 156) (D_LawReader_line 5 rfl) (ha1) c11 (by decide) (by decide) rfl rfl ?_
                        refine j_aloadn (k := 0) (D_LawReader_line 34 rfl) rfl rfl ?_
                        obtain ⟨q12, e12, h⟩ := Option.bind_eq_some_iff.mp h
                        refine j_cVv (c_LawReader_kingLine e12) rfl lk_LawReader_74 mok_LawReader_kingLine kd_21 lc_21 rfl (by decide) rfl rfl (Nat.le_of_ble_eq_true rfl) (D_LawReader_line 35 rfl) ?_
                        refine j_loc [0] rfl ?_
                        exact s_LawReader_line_L160 h
                      · replace h := ite_f h c11
                        by_cases c12 : a1 = 116
                        · replace h := ite_t h c12
                          refine j_tIn (tgt := 95) (D_LawReader_line 5 rfl) (ha1) c12 (by decide) (by decide) rfl rfl ?_
                          refine j_aloadn (k := 0) (D_LawReader_line 9 rfl) rfl rfl ?_
                          obtain ⟨q13, e13, h⟩ := Option.bind_eq_some_iff.mp h
                          refine j_cVv (c_LawReader_wardLine e13) rfl lk_LawReader_55 mok_LawReader_wardLine kd_21 lc_21 rfl (by decide) rfl rfl (Nat.le_of_ble_eq_true rfl) (D_LawReader_line 10 rfl) ?_
                          refine j_goto (tgt := 160) (D_LawReader_line 11 rfl) rfl ?_
                          refine j_loc [0] rfl ?_
                          exact s_LawReader_line_L160 h
                        · replace h := ite_f h c12
                          by_cases c13 : a1 = 117
                          · replace h := ite_t h c13
                            refine j_tIn (tgt := 102) (D_LawReader_line 5 rfl) (ha1) c13 (by decide) (by decide) rfl rfl ?_
                            refine j_aloadn (k := 0) (D_LawReader_line 12 rfl) rfl rfl ?_
                            obtain ⟨q14, e14, h⟩ := Option.bind_eq_some_iff.mp h
                            refine j_cVv (c_LawReader_dowerLine e14) rfl lk_LawReader_58 mok_LawReader_dowerLine kd_21 lc_21 rfl (by decide) rfl rfl (Nat.le_of_ble_eq_true rfl) (D_LawReader_line 13 rfl) ?_
                            refine j_goto (tgt := 160) (D_LawReader_line 14 rfl) rfl ?_
                            refine j_loc [0] rfl ?_
                            exact s_LawReader_line_L160 h
                          · replace h := ite_f h c13
                            by_cases c14 : a1 = 118
                            · replace h := ite_t h c14
                              refine j_tIn (tgt := 109) (D_LawReader_line 5 rfl) (ha1) c14 (by decide) (by decide) rfl rfl ?_
                              refine j_aloadn (k := 0) (D_LawReader_line 15 rfl) rfl rfl ?_
                              have g1 := gd_c h
                              replace h := gd_s h
                              refine j_getR rfl fa_LawReader_19 kd_21 lc_21 (by decide) rfl (fun _ => rfl) (law_kd g1).2.2 (D_LawReader_line 16 rfl) ?_
                              refine j_aloadn (k := 0) (D_LawReader_line 17 rfl) rfl rfl ?_
                              refine j_getR rfl fa_LawReader_15 kd_21 lc_21 (by decide) rfl fx_21_0 (by decide) (D_LawReader_line 18 rfl) ?_
                              refine j_sipush (v := 9999) (D_LawReader_line 19 rfl) rfl ?_
                              obtain ⟨q15, e15, h⟩ := Option.bind_eq_some_iff.mp h
                              refine j_cVi (c_Text_takeNumber (wr_lit rfl) e15) rfl lk_LawReader_61 mok_Text_takeNumber kd_15 lc_15 rfl (by decide) rfl rfl (Nat.le_of_ble_eq_true rfl) (D_LawReader_line 20 rfl) (fun w1 => ?_)
                              refine j_putI rfl fa_LawReader_65 (law_kd g1).1 (law_kd g1).2.1 (by decide) rfl (D_LawReader_line 21 rfl) ?_
                              refine j_gen (fun G1 e16 => ?_)
                              replace h := wG_at h e16
                              refine j_goto (tgt := 160) (D_LawReader_line 22 rfl) rfl ?_
                              refine j_loc [0] rfl ?_
                              exact s_LawReader_line_L160 h
                            · replace h := ite_f h c14
                              by_cases c15 : a1 = 119
                              · replace h := ite_t h c15
                                refine j_tIn (tgt := 129) (D_LawReader_line 5 rfl) (ha1) c15 (by decide) (by decide) rfl rfl ?_
                                refine j_aloadn (k := 0) (D_LawReader_line 23 rfl) rfl rfl ?_
                                have g2 := gd_c h
                                replace h := gd_s h
                                refine j_getR rfl fa_LawReader_19 kd_21 lc_21 (by decide) rfl (fun _ => rfl) (law_kd g2).2.2 (D_LawReader_line 24 rfl) ?_
                                refine j_aloadn (k := 0) (D_LawReader_line 25 rfl) rfl rfl ?_
                                refine j_getR rfl fa_LawReader_15 kd_21 lc_21 (by decide) rfl fx_21_0 (by decide) (D_LawReader_line 26 rfl) ?_
                                refine j_sipush (v := 9999) (D_LawReader_line 27 rfl) rfl ?_
                                obtain ⟨q16, e17, h⟩ := Option.bind_eq_some_iff.mp h
                                refine j_cVi (c_Text_takeNumber (wr_lit rfl) e17) rfl lk_LawReader_61 mok_Text_takeNumber kd_15 lc_15 rfl (by decide) rfl rfl (Nat.le_of_ble_eq_true rfl) (D_LawReader_line 28 rfl) (fun w2 => ?_)
                                refine j_putI rfl fa_LawReader_68 (law_kd g2).1 (law_kd g2).2.1 (by decide) rfl (D_LawReader_line 29 rfl) ?_
                                refine j_gen (fun G2 e18 => ?_)
                                replace h := wG_at h e18
                                refine j_goto (tgt := 160) (D_LawReader_line 30 rfl) rfl ?_
                                refine j_loc [0] rfl ?_
                                exact s_LawReader_line_L160 h
                              · replace h := ite_f h c15
                                by_cases c16 : a1 = 120
                                · replace h := ite_t h c16
                                  refine j_tIn (tgt := 149) (D_LawReader_line 5 rfl) (ha1) c16 (by decide) (by decide) rfl rfl ?_
                                  refine j_aloadn (k := 0) (D_LawReader_line 31 rfl) rfl rfl ?_
                                  obtain ⟨q17, e19, h⟩ := Option.bind_eq_some_iff.mp h
                                  refine j_cVv (c_LawReader_reliefLine e19) rfl lk_LawReader_71 mok_LawReader_reliefLine kd_21 lc_21 rfl (by decide) rfl rfl (Nat.le_of_ble_eq_true rfl) (D_LawReader_line 32 rfl) ?_
                                  refine j_goto (tgt := 160) (D_LawReader_line 33 rfl) rfl ?_
                                  refine j_loc [0] rfl ?_
                                  exact s_LawReader_line_L160 h
                                · replace h := ite_f h c16
                                  refine j_tOut (tgt := 156) (D_LawReader_line 5 rfl) (ha1) (by omega) rfl ?_
                                  refine j_aloadn (k := 0) (D_LawReader_line 34 rfl) rfl rfl ?_
                                  obtain ⟨q18, e20, h⟩ := Option.bind_eq_some_iff.mp h
                                  refine j_cVv (c_LawReader_kingLine e20) rfl lk_LawReader_74 mok_LawReader_kingLine kd_21 lc_21 rfl (by decide) rfl rfl (Nat.le_of_ble_eq_true rfl) (D_LawReader_line 35 rfl) ?_
                                  refine j_loc [0] rfl ?_
                                  exact s_LawReader_line_L160 h
abbrev M_LawReader_read : MI := (⟨"InquestHall$LawReader", "read", "(LInquestHall$Law;)I"⟩, prog_6_method_2_code, 5, (some .int))
theorem cw_LawReader_read : Cond.code M_LawReader_read.1 M_LawReader_read.2.1 M_LawReader_read.2.2.1 M_LawReader_read.2.2.2 ∈ TS := mTS (List.mem_of_getElem? (i := 783) (by decide +kernel)) (by decide +kernel)
theorem lk_LawReader_23 : Cond.methodLink "InquestHall$LawReader" 23 M_Law_reset.1 ∈ TS := mTS (List.mem_of_getElem? (i := 784) (by decide +kernel)) (by decide +kernel)
theorem mok_Law_reset : MOK M_Law_reset 0 := ⟨mTS (List.mem_of_getElem? (i := 539) (by decide +kernel)) (by decide +kernel), mTS (List.mem_of_getElem? (i := 540) (by decide +kernel)) (by decide +kernel), mTS (List.mem_of_getElem? (i := 138) (by decide +kernel)) (by decide +kernel), cw_Law_reset, ⟨by decide, by decide, by decide +kernel⟩, by decide +kernel, by decide⟩
theorem lk_LawReader_38 : Cond.methodLink "InquestHall$LawReader" 38 M_LawReader_startsLine.1 ∈ TS := mTS (List.mem_of_getElem? (i := 789) (by decide +kernel)) (by decide +kernel)
theorem sok_LawReader_startsLine : SOK M_LawReader_startsLine 1 := ⟨mTS (List.mem_of_getElem? (i := 790) (by decide +kernel)) (by decide +kernel), mTS (List.mem_of_getElem? (i := 130) (by decide +kernel)) (by decide +kernel), cw_LawReader_startsLine, ⟨by decide, by decide, by decide +kernel⟩, by decide +kernel, by decide⟩
theorem lk_LawReader_46 : Cond.methodLink "InquestHall$LawReader" 46 M_LawReader_line.1 ∈ TS := mTS (List.mem_of_getElem? (i := 796) (by decide +kernel)) (by decide +kernel)
theorem mok_LawReader_line : MOK M_LawReader_line 1 := ⟨mTS (List.mem_of_getElem? (i := 798) (by decide +kernel)) (by decide +kernel), mTS (List.mem_of_getElem? (i := 7) (by decide +kernel)) (by decide +kernel), mTS (List.mem_of_getElem? (i := 130) (by decide +kernel)) (by decide +kernel), cw_LawReader_line, ⟨by decide, by decide, by decide +kernel⟩, by decide +kernel, by decide⟩
def tb_LawReader_read : List (Nat × Instr × Nat) := [(0, .aload_n 0, 1), (1, .aload_n 1, 1), (2, .putfield 19, 3), (5, .aload_n 0, 1), (6, .getfield 19, 3), (9, .invokevirtual 23, 3), (12, .iconst 0, 1), (13, .istore_n 2, 1), (14, .iconst 0, 1), (15, .istore_n 3, 1), (16, .iload_n 3, 1), (17, .sipush 800, 3), (20, .if_icmp .gt 90, 3), (23, .aload_n 0, 1), (24, .getfield 15, 3), (27, .getfield 30, 3), (30, .ifCond .ne 80, 3), (33, .aload_n 0, 1), (34, .getfield 15, 3), (37, .invokevirtual 34, 3), (40, .ifCond .eq 70, 3), (43, .aload_n 0, 1), (44, .getfield 15, 3), (47, .invokevirtual 34, 3), (50, .istore 4, 2), (52, .iload 4, 2), (54, .invokestatic 38, 3), (57, .ifCond .ne 14, 3), (60, .aload_n 0, 1), (61, .getfield 15, 3), (64, .iconst 1, 1), (65, .invokevirtual 42, 3), (68, .goto 17, 3), (71, .iload_n 2, 1), (72, .bipush 30, 2), (74, .if_icmp .lt 11, 3), (77, .aload_n 0, 1), (78, .getfield 15, 3), (81, .iconst 3, 1), (82, .invokevirtual 42, 3), (85, .aload_n 0, 1), (86, .getfield 15, 3), (89, .getfield 30, 3), (92, .ifCond .ne 12, 3), (95, .aload_n 0, 1), (96, .iload 4, 2), (98, .invokevirtual 46, 3), (101, .iinc 2 1, 3), (104, .iinc 3 1, 3), (107, .goto (-91), 3), (110, .aload_n 0, 1), (111, .getfield 15, 3), (114, .getfield 30, 3), (117, .ifCond .ne 7, 3), (120, .iload_n 2, 1), (121, .goto 4, 3), (124, .iconst (-1), 1), (125, .ireturn, 1)]
theorem D_LawReader_read (i : Nat) {pc len : Nat} {ins : Instr} (hi : tb_LawReader_read[i]? = some (pc, ins, len)) : decode M_LawReader_read.2.1 pc = .ok (ins, len) := dec_of (by decide +kernel) i hi
def f_LawReader_read_L110 (G : GS) (x2 : Int) : Option (Int × GS) :=
  if gi G 15 8 = 0 then
    some (x2, G)
  else
    some ((-1), G)
theorem s_LawReader_read_L110 {X : XT} {r : Int × GS} : ∀ {G : GS} {x2 : Int}, wr x2 = x2 → f_LawReader_read_L110 G x2 = some r → J X true 13 0 0 M_LawReader_read (Ri r.1 r.2) NC 0 0 110 [(0, rf X 21), (2, vi x2)] [] G := by
  intro G x2 hx2 h
  unfold f_LawReader_read_L110 at h
  refine j_aloadn (k := 0) (D_LawReader_read 50 rfl) rfl rfl ?_
  refine j_getR rfl fa_LawReader_15 kd_21 lc_21 (by decide) rfl fx_21_0 (by decide) (D_LawReader_read 51 rfl) ?_
  refine j_getI rfl fa_LawReader_30 kd_15 lc_15 (by decide) rfl (D_LawReader_read 52 rfl) ?_
  refine j_if_ne (tgt := 124) (D_LawReader_read 53 rfl) rfl (wr_gi _ _ _) (fun c1 => ?_) (fun c1 => ?_)
  · replace h := ite_f h c1
    refine j_iconst (v := (-1)) (D_LawReader_read 56 rfl) rfl ?_
    exact j_iret (D_LawReader_read 57 rfl) rfl (wr_lit rfl) rfl rfl (leafI h (wr_n (wr_lit rfl)))
  · replace h := ite_t h c1
    refine j_iloadn (k := 1) (D_LawReader_read 54 rfl) rfl rfl ?_
    refine j_goto (tgt := 125) (D_LawReader_read 55 rfl) rfl ?_
    exact j_iret (D_LawReader_read 57 rfl) rfl (hx2) rfl rfl (leafI h (wr_n (hx2)))
def f_LawReader_read_L104 (k16 : GS → Int → Int → Option (Int × GS)) (G : GS) (x2 : Int) (x3 : Int) : Option (Int × GS) :=
  k16 G x2 (wr (x3 + 1))
theorem s_LawReader_read_L104 {X : XT} {r : Int × GS} {k16 : GS → Int → Int → Option (Int × GS)} (hk16 : ∀ {G : GS} {x2 : Int} {x3 : Int} , wr x2 = x2 → wr x3 = x3 → k16 G x2 x3 = some r → J X true 13 0 0 M_LawReader_read (Ri r.1 r.2) NC 0 0 16 [(0, rf X 21), (2, vi x2), (3, vi x3)] [] G) : ∀ {G : GS} {x2 : Int} {x3 : Int}, wr x2 = x2 → wr x3 = x3 → f_LawReader_read_L104 k16 G x2 x3 = some r → J X true 13 0 0 M_LawReader_read (Ri r.1 r.2) NC 0 0 104 [(0, rf X 21), (2, vi x2), (3, vi x3)] [] G := by
  intro G x2 x3 hx2 hx3 h
  unfold f_LawReader_read_L104 at h
  refine j_iinc (k := 2) (L' := [(3, vi (wr (x3 + 1))), (0, rf X 21), (2, vi x2)]) (D_LawReader_read 48 rfl) rfl rfl (by decide) rfl ?_
  refine j_goto (tgt := 16) (D_LawReader_read 49 rfl) rfl ?_
  refine j_loc [1, 2, 0] rfl ?_
  exact hk16 (hx2) (wr_wr _) h
def f_LawReader_read_L85 (k16 : GS → Int → Int → Option (Int × GS)) (G : GS) (x2 : Int) (x3 : Int) (x4 : Int) : Option (Int × GS) :=
  if gi G 15 8 = 0 then
    (f_LawReader_line G x4).bind fun q1 =>
    f_LawReader_read_L104 k16 q1 (wr (x2 + 1)) x3
  else
    f_LawReader_read_L104 k16 G x2 x3
theorem s_LawReader_read_L85 {X : XT} {r : Int × GS} {k16 : GS → Int → Int → Option (Int × GS)} (hk16 : ∀ {G : GS} {x2 : Int} {x3 : Int} , wr x2 = x2 → wr x3 = x3 → k16 G x2 x3 = some r → J X true 13 0 0 M_LawReader_read (Ri r.1 r.2) NC 0 0 16 [(0, rf X 21), (2, vi x2), (3, vi x3)] [] G) : ∀ {G : GS} {x2 : Int} {x3 : Int} {x4 : Int}, wr x2 = x2 → wr x3 = x3 → wr x4 = x4 → f_LawReader_read_L85 k16 G x2 x3 x4 = some r → J X true 13 0 0 M_LawReader_read (Ri r.1 r.2) NC 0 0 85 [(0, rf X 21), (2, vi x2), (3, vi x3), (4, vi x4)] [] G := by
  intro G x2 x3 x4 hx2 hx3 hx4 h
  unfold f_LawReader_read_L85 at h
  refine j_aloadn (k := 0) (D_LawReader_read 40 rfl) rfl rfl ?_
  refine j_getR rfl fa_LawReader_15 kd_21 lc_21 (by decide) rfl fx_21_0 (by decide) (D_LawReader_read 41 rfl) ?_
  refine j_getI rfl fa_LawReader_30 kd_15 lc_15 (by decide) rfl (D_LawReader_read 42 rfl) ?_
  refine j_if_ne (tgt := 104) (D_LawReader_read 43 rfl) rfl (wr_gi _ _ _) (fun c1 => ?_) (fun c1 => ?_)
  · replace h := ite_f h c1
    refine j_loc [0, 1, 2] rfl ?_
    exact s_LawReader_read_L104 hk16 (hx2) (hx3) h
  · replace h := ite_t h c1
    refine j_aloadn (k := 0) (D_LawReader_read 44 rfl) rfl rfl ?_
    refine j_iload (k := 3) (D_LawReader_read 45 rfl) rfl ?_
    obtain ⟨q1, e1, h⟩ := Option.bind_eq_some_iff.mp h
    refine j_cVv (c_LawReader_line (hx4) e1) rfl lk_LawReader_46 mok_LawReader_line kd_21 lc_21 rfl (by decide) rfl rfl (Nat.le_of_ble_eq_true rfl) (D_LawReader_read 46 rfl) ?_
    refine j_iinc (k := 1) (L' := [(2, vi (wr (x2 + 1))), (0, rf X 21), (3, vi x3), (4, vi x4)]) (D_LawReader_read 47 rfl) rfl rfl (by decide) rfl ?_
    refine j_loc [1, 0, 2] rfl ?_
    exact s_LawReader_read_L104 hk16 (wr_wr _) (hx3) h
def f_LawReader_read_L16 : Nat → GS → Int → Int → Option (Int × GS)
  | 0, _, _, _ => none
  | n + 1, G, x2, x3 =>
    if 800 < x3 then
      f_LawReader_read_L110 G x2
    else
      if gi G 15 8 = 0 then
        (f_Text_kind G).bind fun q1 =>
        if q1 = 0 then
          f_LawReader_read_L110 G x2
        else
          (f_Text_kind G).bind fun q2 =>
          (f_LawReader_startsLine G q2).bind fun q3 =>
          if q3 = 0 then
            (f_Text_fail G 1).bind fun q5 =>
            f_LawReader_read_L85 (f_LawReader_read_L16 n) q5 x2 x3 q2
          else
            if x2 < 30 then
              f_LawReader_read_L85 (f_LawReader_read_L16 n) G x2 x3 q2
            else
              (f_Text_fail G 3).bind fun q4 =>
              f_LawReader_read_L85 (f_LawReader_read_L16 n) q4 x2 x3 q2
      else
        f_LawReader_read_L110 G x2
theorem s_LawReader_read_L16 {X : XT} {r : Int × GS} : ∀ (n : Nat) {G : GS} {x2 : Int} {x3 : Int}, wr x2 = x2 → wr x3 = x3 → f_LawReader_read_L16 n G x2 x3 = some r → J X true 13 0 0 M_LawReader_read (Ri r.1 r.2) NC 0 0 16 [(0, rf X 21), (2, vi x2), (3, vi x3)] [] G := by
  intro n
  induction n with
  | zero =>
    intro G x2 x3 hx2 hx3 h
    exact none_some h
  | succ n ih =>
    intro G x2 x3 hx2 hx3 h
    rw [f_LawReader_read_L16] at h
    refine j_iloadn (k := 2) (D_LawReader_read 10 rfl) rfl rfl ?_
    refine j_sipush (v := 800) (D_LawReader_read 11 rfl) rfl ?_
    refine j_ic_gt (tgt := 110) (D_LawReader_read 12 rfl) rfl (hx3) (wr_lit rfl) (fun c1 => ?_) (fun c1 => ?_)
    · replace h := ite_t h c1
      refine j_loc [0, 1] rfl ?_
      exact s_LawReader_read_L110 (hx2) h
    · replace h := ite_f h c1
      refine j_aloadn (k := 0) (D_LawReader_read 13 rfl) rfl rfl ?_
      refine j_getR rfl fa_LawReader_15 kd_21 lc_21 (by decide) rfl fx_21_0 (by decide) (D_LawReader_read 14 rfl) ?_
      refine j_getI rfl fa_LawReader_30 kd_15 lc_15 (by decide) rfl (D_LawReader_read 15 rfl) ?_
      refine j_if_ne (tgt := 110) (D_LawReader_read 16 rfl) rfl (wr_gi _ _ _) (fun c2 => ?_) (fun c2 => ?_)
      · replace h := ite_f h c2
        refine j_loc [0, 1] rfl ?_
        exact s_LawReader_read_L110 (hx2) h
      · replace h := ite_t h c2
        refine j_aloadn (k := 0) (D_LawReader_read 17 rfl) rfl rfl ?_
        refine j_getR rfl fa_LawReader_15 kd_21 lc_21 (by decide) rfl fx_21_0 (by decide) (D_LawReader_read 18 rfl) ?_
        obtain ⟨q1, e1, h⟩ := Option.bind_eq_some_iff.mp h
        refine j_cVi (c_Text_kind e1) rfl lk_LawReader_34 mok_Text_kind kd_15 lc_15 rfl (by decide) rfl rfl (Nat.le_of_ble_eq_true rfl) (D_LawReader_read 19 rfl) (fun w1 => ?_)
        refine j_if_eq (tgt := 110) (D_LawReader_read 20 rfl) rfl (w1) (fun c3 => ?_) (fun c3 => ?_)
        · replace h := ite_t h c3
          refine j_loc [0, 1] rfl ?_
          exact s_LawReader_read_L110 (hx2) h
        · replace h := ite_f h c3
          refine j_aloadn (k := 0) (D_LawReader_read 21 rfl) rfl rfl ?_
          refine j_getR rfl fa_LawReader_15 kd_21 lc_21 (by decide) rfl fx_21_0 (by decide) (D_LawReader_read 22 rfl) ?_
          obtain ⟨q2, e2, h⟩ := Option.bind_eq_some_iff.mp h
          refine j_cVi (c_Text_kind e2) rfl lk_LawReader_34 mok_Text_kind kd_15 lc_15 rfl (by decide) rfl rfl (Nat.le_of_ble_eq_true rfl) (D_LawReader_read 23 rfl) (fun w2 => ?_)
          refine j_istore (L' := [(4, vi q2), (0, rf X 21), (2, vi x2), (3, vi x3)]) (D_LawReader_read 24 rfl) (w2) (by decide) rfl ?_
          refine j_iload (k := 0) (D_LawReader_read 25 rfl) rfl ?_
          obtain ⟨q3, e3, h⟩ := Option.bind_eq_some_iff.mp h
          refine j_cSz (c_LawReader_startsLine (w2) e3) rfl lk_LawReader_38 sok_LawReader_startsLine (by decide) rfl rfl (Nat.le_of_ble_eq_true rfl) (D_LawReader_read 26 rfl) (fun w3 bw3 => ?_)
          refine j_if_ne (tgt := 71) (D_LawReader_read 27 rfl) rfl (w3) (fun c4 => ?_) (fun c4 => ?_)
          · replace h := ite_f h c4
            refine j_iloadn (k := 2) (D_LawReader_read 33 rfl) rfl rfl ?_
            refine j_bipush (v := 30) (D_LawReader_read 34 rfl) rfl ?_
            refine j_ic_lt (tgt := 85) (D_LawReader_read 35 rfl) rfl (hx2) (wr_lit rfl) (fun c5 => ?_) (fun c5 => ?_)
            · replace h := ite_t h c5
              refine j_loc [1, 2, 3, 0] rfl ?_
              exact s_LawReader_read_L85 ih (hx2) (hx3) (w2) h
            · replace h := ite_f h c5
              refine j_aloadn (k := 1) (D_LawReader_read 36 rfl) rfl rfl ?_
              refine j_getR rfl fa_LawReader_15 kd_21 lc_21 (by decide) rfl fx_21_0 (by decide) (D_LawReader_read 37 rfl) ?_
              refine j_iconst (v := 3) (D_LawReader_read 38 rfl) rfl ?_
              obtain ⟨q4, e4, h⟩ := Option.bind_eq_some_iff.mp h
              refine j_cVv (c_Text_fail (wr_lit rfl) e4) rfl lk_LawReader_42 mok_Text_fail kd_15 lc_15 rfl (by decide) rfl rfl (Nat.le_of_ble_eq_true rfl) (D_LawReader_read 39 rfl) ?_
              refine j_loc [1, 2, 3, 0] rfl ?_
              exact s_LawReader_read_L85 ih (hx2) (hx3) (w2) h
          · replace h := ite_t h c4
            refine j_aloadn (k := 1) (D_LawReader_read 28 rfl) rfl rfl ?_
            refine j_getR rfl fa_LawReader_15 kd_21 lc_21 (by decide) rfl fx_21_0 (by decide) (D_LawReader_read 29 rfl) ?_
            refine j_iconst (v := 1) (D_LawReader_read 30 rfl) rfl ?_
            obtain ⟨q5, e5, h⟩ := Option.bind_eq_some_iff.mp h
            refine j_cVv (c_Text_fail (wr_lit rfl) e5) rfl lk_LawReader_42 mok_Text_fail kd_15 lc_15 rfl (by decide) rfl rfl (Nat.le_of_ble_eq_true rfl) (D_LawReader_read 31 rfl) ?_
            refine j_goto (tgt := 85) (D_LawReader_read 32 rfl) rfl ?_
            refine j_loc [1, 2, 3, 0] rfl ?_
            exact s_LawReader_read_L85 ih (hx2) (hx3) (w2) h
def f_LawReader_read (G : GS) (a1 : Nat) : Option (Int × GS) :=
  wG (sp G 21 1 a1) fun G1 =>
  gd (lawC (gp G1 21 1) = true) <|
  (f_Law_reset G1 (gp G1 21 1)).bind fun q1 =>
  f_LawReader_read_L16 FU q1 0 0
theorem c_LawReader_read {X : XT} {G : GS} {a1 : Nat} {r : Int × GS} (ha1 : lawC a1 = true) (h : f_LawReader_read G a1 = some r) : Call X true 13 0 0 M_LawReader_read [rf X 21, rf X a1] NC G (Ri r.1 r.2) := by
  refine Call_of_J cw_LawReader_read (by decide +kernel) (Nat.le_of_ble_eq_true rfl) ?_
  unfold f_LawReader_read at h
  show J X true 13 0 0 M_LawReader_read (Ri r.1 r.2) NC 0 0 0 [(0, rf X 21), (1, rf X a1)] [] G
  refine j_aloadn (k := 0) (D_LawReader_read 0 rfl) rfl rfl ?_
  refine j_aloadn (k := 1) (D_LawReader_read 1 rfl) rfl rfl ?_
  refine j_putR rfl fa_LawReader_19 kd_21 lc_21 (by decide) rfl (law_kd ha1).2.2 (Or.inr (by decide +kernel)) (D_LawReader_read 2 rfl) ?_
  refine j_gen (fun G1 e1 => ?_)
  replace h := wG_at h e1
  refine j_aloadn (k := 0) (D_LawReader_read 3 rfl) rfl rfl ?_
  have g1 := gd_c h
  replace h := gd_s h
  refine j_getR rfl fa_LawReader_19 kd_21 lc_21 (by decide) rfl (fun _ => rfl) (law_kd g1).2.2 (D_LawReader_read 4 rfl) ?_
  obtain ⟨q1, e2, h⟩ := Option.bind_eq_some_iff.mp h
  refine j_cVv (c_Law_reset g1 e2) rfl lk_LawReader_23 mok_Law_reset (law_kd g1).1 (law_kd g1).2.1 rfl (by decide) rfl rfl (Nat.le_of_ble_eq_true rfl) (D_LawReader_read 5 rfl) ?_
  refine j_iconst (v := 0) (D_LawReader_read 6 rfl) rfl ?_
  refine j_istoren (L' := [(2, vi 0), (0, rf X 21), (1, rf X a1)]) (D_LawReader_read 7 rfl) rfl (wr_lit rfl) (by decide) rfl ?_
  refine j_iconst (v := 0) (D_LawReader_read 8 rfl) rfl ?_
  refine j_istoren (L' := [(3, vi 0), (2, vi 0), (0, rf X 21), (1, rf X a1)]) (D_LawReader_read 9 rfl) rfl (wr_lit rfl) (by decide) rfl ?_
  refine j_loc [2, 1, 0] rfl ?_
  exact s_LawReader_read_L16 FU (wr_lit rfl) (wr_lit rfl) h
abbrev M_Hall_reads : MI := (⟨"InquestHall", "reads", "(I)I"⟩, prog_1_method_14_code, 4, (some .int))
theorem cw_Hall_reads : Cond.code M_Hall_reads.1 M_Hall_reads.2.1 M_Hall_reads.2.2.1 M_Hall_reads.2.2.2 ∈ TS := mTS (List.mem_of_getElem? (i := 742) (by decide +kernel)) (by decide +kernel)
theorem lk_Hall_165 : Cond.methodLink "InquestHall" 165 M_Text_scan.1 ∈ TS := mTS (List.mem_of_getElem? (i := 743) (by decide +kernel)) (by decide +kernel)
theorem mok_Text_scan : MOK M_Text_scan 0 := ⟨mTS (List.mem_of_getElem? (i := 744) (by decide +kernel)) (by decide +kernel), mTS (List.mem_of_getElem? (i := 745) (by decide +kernel)) (by decide +kernel), mTS (List.mem_of_getElem? (i := 125) (by decide +kernel)) (by decide +kernel), cw_Text_scan, ⟨by decide, by decide, by decide +kernel⟩, by decide +kernel, by decide⟩
theorem fa_Hall_35 : FA "InquestHall" 35 0 3 true (.object "InquestHall$LawReader") := ⟨_, _, _, _, ok_Hall, by decide, mTS (List.mem_of_getElem? (i := 595) (by decide +kernel)) (by decide +kernel), rfl, rfl⟩
theorem fx_0_3 {G : GS} (w : WF true NC G) : G.2.2 0 3 = 21 := w.2 rfl (0, 3, 21) (by decide)
theorem fa_Hall_100 : FA "InquestHall" 100 0 13 false (.object "InquestHall$Law") := ⟨_, _, _, _, ok_Hall, by decide, mTS (List.mem_of_getElem? (i := 605) (by decide +kernel)) (by decide +kernel), rfl, rfl⟩
theorem lk_Hall_168 : Cond.methodLink "InquestHall" 168 M_LawReader_read.1 ∈ TS := mTS (List.mem_of_getElem? (i := 780) (by decide +kernel)) (by decide +kernel)
theorem mok_LawReader_read : MOK M_LawReader_read 1 := ⟨mTS (List.mem_of_getElem? (i := 781) (by decide +kernel)) (by decide +kernel), mTS (List.mem_of_getElem? (i := 782) (by decide +kernel)) (by decide +kernel), mTS (List.mem_of_getElem? (i := 130) (by decide +kernel)) (by decide +kernel), cw_LawReader_read, ⟨by decide, by decide, by decide +kernel⟩, by decide +kernel, by decide⟩
theorem fa_Hall_87 : FA "InquestHall" 87 0 10 true (.array (.object "InquestHall$Law")) := ⟨_, _, _, _, ok_Hall, by decide, mTS (List.mem_of_getElem? (i := 602) (by decide +kernel)) (by decide +kernel), rfl, rfl⟩
theorem fx_0_10 {G : GS} (w : WF true NC G) : G.2.2 0 10 = 49 := w.2 rfl (0, 10, 49) (by decide)
theorem kd_49 : kd 49 = (4, 4) := rfl
theorem lc_49 : 49 < NC := by decide
def tb_Hall_reads : List (Nat × Instr × Nat) := [(0, .iload_n 1, 1), (1, .ifCond .lt 11, 3), (4, .iload_n 1, 1), (5, .aload_n 0, 1), (6, .getfield 96, 3), (9, .if_icmp .lt 13, 3), (12, .aload_n 0, 1), (13, .getfield 26, 3), (16, .iconst 0, 1), (17, .putfield 158, 3), (20, .iconst (-1), 1), (21, .ireturn, 1), (22, .aload_n 0, 1), (23, .getfield 26, 3), (26, .invokevirtual 165, 3), (29, .aload_n 0, 1), (30, .getfield 35, 3), (33, .aload_n 0, 1), (34, .getfield 100, 3), (37, .invokevirtual 168, 3), (40, .istore_n 2, 1), (41, .iload_n 2, 1), (42, .iconst (-1), 1), (43, .if_icmp .eq 25, 3), (46, .aload_n 0, 1), (47, .getfield 87, 3), (50, .iload_n 1, 1), (51, .aaload, 1), (52, .astore_n 3, 1), (53, .aload_n 0, 1), (54, .getfield 87, 3), (57, .iload_n 1, 1), (58, .aload_n 0, 1), (59, .getfield 100, 3), (62, .aastore, 1), (63, .aload_n 0, 1), (64, .aload_n 3, 1), (65, .putfield 100, 3), (68, .iload_n 2, 1), (69, .ireturn, 1)]
theorem D_Hall_reads (i : Nat) {pc len : Nat} {ins : Instr} (hi : tb_Hall_reads[i]? = some (pc, ins, len)) : decode M_Hall_reads.2.1 pc = .ok (ins, len) := dec_of (by decide +kernel) i hi
def f_Hall_reads_L12 (G : GS) : Option (Int × GS) :=
  wG (si G 15 1 0) fun G1 =>
  some ((-1), G1)
theorem s_Hall_reads_L12 {X : XT} {r : Int × GS} : ∀ {G : GS}, f_Hall_reads_L12 G = some r → J X true 14 0 0 M_Hall_reads (Ri r.1 r.2) NC 0 0 12 [(0, rf X 0)] [] G := by
  intro G h
  unfold f_Hall_reads_L12 at h
  refine j_aloadn (k := 0) (D_Hall_reads 6 rfl) rfl rfl ?_
  refine j_getR rfl fa_Hall_26 kd_0 lc_0 (by decide) rfl fx_0_2 (by decide) (D_Hall_reads 7 rfl) ?_
  refine j_iconst (v := 0) (D_Hall_reads 8 rfl) rfl ?_
  refine j_putI rfl fa_Hall_158 kd_15 lc_15 (by decide) rfl (D_Hall_reads 9 rfl) ?_
  refine j_gen (fun G1 e1 => ?_)
  replace h := wG_at h e1
  refine j_iconst (v := (-1)) (D_Hall_reads 10 rfl) rfl ?_
  exact j_iret (D_Hall_reads 11 rfl) rfl (wr_lit rfl) rfl rfl (leafI h (wr_n (wr_lit rfl)))
def f_Hall_reads (G : GS) (a1 : Int) : Option (Int × GS) :=
  if a1 < 0 then
    f_Hall_reads_L12 G
  else
    if a1 < gi G 0 12 then
      (f_Text_scan G).bind fun q1 =>
      gd (lawC (gp q1 0 13) = true) <|
      (f_LawReader_read q1 (gp q1 0 13)).bind fun q2 =>
      if q2.1 = (-1) then
        some (q2.1, q2.2)
      else
        gd (0 ≤ a1 ∧ a1 < 4) <|
        gd (lawC (gp q2.2 49 a1.toNat) = true) <|
        gd (lawC (gp q2.2 0 13) = true) <|
        gd (0 ≤ a1 ∧ a1 < 4) <|
        wG (sp q2.2 49 a1.toNat (gp q2.2 0 13)) fun G1 =>
        wG (sp G1 0 13 (gp q2.2 49 a1.toNat)) fun G2 =>
        some (q2.1, G2)
    else
      f_Hall_reads_L12 G
theorem c_Hall_reads {X : XT} {G : GS} {a1 : Int} {r : Int × GS} (ha1 : wr a1 = a1) (h : f_Hall_reads G a1 = some r) : Call X true 14 0 0 M_Hall_reads [rf X 0, vi a1] NC G (Ri r.1 r.2) := by
  refine Call_of_J cw_Hall_reads (by decide +kernel) (Nat.le_of_ble_eq_true rfl) ?_
  unfold f_Hall_reads at h
  show J X true 14 0 0 M_Hall_reads (Ri r.1 r.2) NC 0 0 0 [(0, rf X 0), (1, vi a1)] [] G
  refine j_iloadn (k := 1) (D_Hall_reads 0 rfl) rfl rfl ?_
  refine j_if_lt (tgt := 12) (D_Hall_reads 1 rfl) rfl (ha1) (fun c1 => ?_) (fun c1 => ?_)
  · replace h := ite_t h c1
    refine j_loc [0] rfl ?_
    exact s_Hall_reads_L12 h
  · replace h := ite_f h c1
    refine j_iloadn (k := 1) (D_Hall_reads 2 rfl) rfl rfl ?_
    refine j_aloadn (k := 0) (D_Hall_reads 3 rfl) rfl rfl ?_
    refine j_getI rfl fa_Hall_96 kd_0 lc_0 (by decide) rfl (D_Hall_reads 4 rfl) ?_
    refine j_ic_lt (tgt := 22) (D_Hall_reads 5 rfl) rfl (ha1) (wr_gi _ _ _) (fun c2 => ?_) (fun c2 => ?_)
    · replace h := ite_t h c2
      refine j_aloadn (k := 0) (D_Hall_reads 12 rfl) rfl rfl ?_
      refine j_getR rfl fa_Hall_26 kd_0 lc_0 (by decide) rfl fx_0_2 (by decide) (D_Hall_reads 13 rfl) ?_
      obtain ⟨q1, e1, h⟩ := Option.bind_eq_some_iff.mp h
      refine j_cVv (c_Text_scan e1) rfl lk_Hall_165 mok_Text_scan kd_15 lc_15 rfl (by decide) rfl rfl (Nat.le_of_ble_eq_true rfl) (D_Hall_reads 14 rfl) ?_
      refine j_aloadn (k := 0) (D_Hall_reads 15 rfl) rfl rfl ?_
      refine j_getR rfl fa_Hall_35 kd_0 lc_0 (by decide) rfl fx_0_3 (by decide) (D_Hall_reads 16 rfl) ?_
      refine j_aloadn (k := 0) (D_Hall_reads 17 rfl) rfl rfl ?_
      have g1 := gd_c h
      replace h := gd_s h
      refine j_getR rfl fa_Hall_100 kd_0 lc_0 (by decide) rfl (fun _ => rfl) (law_kd g1).2.2 (D_Hall_reads 18 rfl) ?_
      obtain ⟨q2, e2, h⟩ := Option.bind_eq_some_iff.mp h
      refine j_cVi (c_LawReader_read g1 e2) rfl lk_Hall_168 mok_LawReader_read kd_21 lc_21 rfl (by decide) rfl rfl (Nat.le_of_ble_eq_true rfl) (D_Hall_reads 19 rfl) (fun w1 => ?_)
      refine j_istoren (L' := [(2, vi q2.1), (0, rf X 0), (1, vi a1)]) (D_Hall_reads 20 rfl) rfl (w1) (by decide) rfl ?_
      refine j_iloadn (k := 0) (D_Hall_reads 21 rfl) rfl rfl ?_
      refine j_iconst (v := (-1)) (D_Hall_reads 22 rfl) rfl ?_
      refine j_ic_eq (tgt := 68) (D_Hall_reads 23 rfl) rfl (w1) (wr_lit rfl) (fun c3 => ?_) (fun c3 => ?_)
      · replace h := ite_t h c3
        refine j_iloadn (k := 0) (D_Hall_reads 38 rfl) rfl rfl ?_
        exact j_iret (D_Hall_reads 39 rfl) rfl (w1) rfl rfl (leafI h (wr_n (w1)))
      · replace h := ite_f h c3
        refine j_aloadn (k := 1) (D_Hall_reads 24 rfl) rfl rfl ?_
        refine j_getR rfl fa_Hall_87 kd_0 lc_0 (by decide) rfl fx_0_10 (by decide) (D_Hall_reads 25 rfl) ?_
        refine j_iloadn (k := 2) (D_Hall_reads 26 rfl) rfl rfl ?_
        have g2 := gd_c h
        replace h := gd_s h
        have g3 := gd_c h
        replace h := gd_s h
        refine j_aald (NI := 4) (D_Hall_reads 27 rfl) kd_49 lc_49 (ha1) rfl g2.1 g2.2 (law_kd g3).2.2 ?_
        refine j_astoren (L' := [(3, rf X (gp q2.2 49 a1.toNat)), (2, vi q2.1), (0, rf X 0), (1, vi a1)]) (D_Hall_reads 28 rfl) rfl (by decide) rfl ?_
        refine j_aloadn (k := 2) (D_Hall_reads 29 rfl) rfl rfl ?_
        refine j_getR rfl fa_Hall_87 kd_0 lc_0 (by decide) rfl fx_0_10 (by decide) (D_Hall_reads 30 rfl) ?_
        refine j_iloadn (k := 3) (D_Hall_reads 31 rfl) rfl rfl ?_
        refine j_aloadn (k := 2) (D_Hall_reads 32 rfl) rfl rfl ?_
        have g4 := gd_c h
        replace h := gd_s h
        refine j_getR rfl fa_Hall_100 kd_0 lc_0 (by decide) rfl (fun _ => rfl) (law_kd g4).2.2 (D_Hall_reads 33 rfl) ?_
        have g5 := gd_c h
        replace h := gd_s h
        refine j_aast (NI := 4) (D_Hall_reads 34 rfl) kd_49 lc_49 (ha1) rfl g5.1 g5.2 g4 (law_kd g4).2.1 (Or.inr (by decide +kernel)) ?_
        refine j_gen (fun G1 e3 => ?_)
        replace h := wG_at h e3
        refine j_aloadn (k := 2) (D_Hall_reads 35 rfl) rfl rfl ?_
        refine j_aloadn (k := 0) (D_Hall_reads 36 rfl) rfl rfl ?_
        refine j_putR rfl fa_Hall_100 kd_0 lc_0 (by decide) rfl (law_kd g3).2.2 (Or.inr (by decide +kernel)) (D_Hall_reads 37 rfl) ?_
        refine j_gen (fun G2 e4 => ?_)
        replace h := wG_at h e4
        refine j_iloadn (k := 1) (D_Hall_reads 38 rfl) rfl rfl ?_
        exact j_iret (D_Hall_reads 39 rfl) rfl (w1) rfl rfl (leafI h (wr_n (w1)))
    · replace h := ite_f h c2
      refine j_loc [0] rfl ?_
      exact s_Hall_reads_L12 h
abbrev M_Model_see : MI := (⟨"InquestHallModel", "see", "(I)I"⟩, prog_14_method_25_code, 2, (some .int))
theorem cw_Model_see : Cond.code M_Model_see.1 M_Model_see.2.1 M_Model_see.2.2.1 M_Model_see.2.2.2 ∈ TS := mTS (List.mem_of_getElem? (i := 1653) (by decide +kernel)) (by decide +kernel)
def tb_Model_see : List (Nat × Instr × Nat) := [(0, .iload_n 1, 1), (1, .aload_n 0, 1), (2, .getfield 226, 3), (5, .if_icmp .ge 12, 3), (8, .aload_n 0, 1), (9, .getfield 115, 3), (12, .iload_n 1, 1), (13, .iaload, 1), (14, .goto 4, 3), (17, .iconst (-1), 1), (18, .ireturn, 1)]
theorem D_Model_see (i : Nat) {pc len : Nat} {ins : Instr} (hi : tb_Model_see[i]? = some (pc, ins, len)) : decode M_Model_see.2.1 pc = .ok (ins, len) := dec_of (by decide +kernel) i hi
def f_Model_see (G : GS) (a1 : Int) : Option (Int) :=
  if gi G 81 43 ≤ a1 then
    some (-1)
  else
    gd (0 ≤ a1 ∧ a1 < 800) <|
    some (gi G 117 a1.toNat)
theorem c_Model_see {X : XT} {G : GS} {a1 : Int} {r : Int} (ha1 : wr a1 = a1) (h : f_Model_see G a1 = some r) : Call X true 6 0 0 M_Model_see [rf X 81, vi a1] NC G (Ri r G) := by
  refine Call_of_J cw_Model_see (by decide +kernel) (Nat.le_of_ble_eq_true rfl) ?_
  unfold f_Model_see at h
  show J X true 6 0 0 M_Model_see (Ri r G) NC 0 0 0 [(0, rf X 81), (1, vi a1)] [] G
  refine j_iloadn (k := 1) (D_Model_see 0 rfl) rfl rfl ?_
  refine j_aloadn (k := 0) (D_Model_see 1 rfl) rfl rfl ?_
  refine j_getI rfl fa_Model_226 kd_81 lc_81 (by decide) rfl (D_Model_see 2 rfl) ?_
  refine j_ic_ge (tgt := 17) (D_Model_see 3 rfl) rfl (ha1) (wr_gi _ _ _) (fun c1 => ?_) (fun c1 => ?_)
  · replace h := ite_t h c1
    refine j_iconst (v := (-1)) (D_Model_see 9 rfl) rfl ?_
    exact j_iret (D_Model_see 10 rfl) rfl (wr_lit rfl) rfl rfl (leafIo h (wr_n (wr_lit rfl)))
  · replace h := ite_f h c1
    refine j_aloadn (k := 0) (D_Model_see 4 rfl) rfl rfl ?_
    refine j_getR rfl fa_Model_115 kd_81 lc_81 (by decide) rfl fx_81_39 (by decide) (D_Model_see 5 rfl) ?_
    refine j_iloadn (k := 1) (D_Model_see 6 rfl) rfl rfl ?_
    have g1 := gd_c h
    replace h := gd_s h
    refine j_iald (NI := 800) (D_Model_see 7 rfl) kd_117 lc_117 (ha1) rfl g1.1 g1.2 ?_
    refine j_goto (tgt := 18) (D_Model_see 8 rfl) rfl ?_
    exact j_iret (D_Model_see 10 rfl) rfl (wr_gi _ _ _) rfl rfl (leafIo h (wr_n (wr_gi _ _ _)))
abbrev M_Model_isLetter : MI := (⟨"InquestHallModel", "isLetter", "(I)Z"⟩, prog_14_method_26_code, 1, (some .boolean))
theorem cw_Model_isLetter : Cond.code M_Model_isLetter.1 M_Model_isLetter.2.1 M_Model_isLetter.2.2.1 M_Model_isLetter.2.2.2 ∈ TS := mTS (List.mem_of_getElem? (i := 1656) (by decide +kernel)) (by decide +kernel)
def tb_Model_isLetter : List (Nat × Instr × Nat) := [(0, .iload_n 0, 1), (1, .bipush 97, 2), (3, .bipush 122, 2), (5, .invokestatic 188, 3), (8, .ifCond .ne 14, 3), (11, .iload_n 0, 1), (12, .bipush 65, 2), (14, .bipush 90, 2), (16, .invokestatic 188, 3), (19, .ifCond .eq 7, 3), (22, .iconst 1, 1), (23, .goto 4, 3), (26, .iconst 0, 1), (27, .ireturn, 1)]
theorem D_Model_isLetter (i : Nat) {pc len : Nat} {ins : Instr} (hi : tb_Model_isLetter[i]? = some (pc, ins, len)) : decode M_Model_isLetter.2.1 pc = .ok (ins, len) := dec_of (by decide +kernel) i hi
def f_Model_isLetter (G : GS) (a0 : Int) : Option (Int) :=
  (f_Model_isIn G a0 97 122).bind fun q1 =>
  if q1 = 0 then
    (f_Model_isIn G a0 65 90).bind fun q2 =>
    if q2 = 0 then
      some 0
    else
      some 1
  else
    some 1
theorem c_Model_isLetter {X : XT} {G : GS} {a0 : Int} {r : Int} (ha0 : wr a0 = a0) (h : f_Model_isLetter G a0 = some r) : Call X true 7 0 0 M_Model_isLetter [vi a0] NC G (Rz r G) := by
  refine Call_of_J cw_Model_isLetter (by decide +kernel) (Nat.le_of_ble_eq_true rfl) ?_
  unfold f_Model_isLetter at h
  show J X true 7 0 0 M_Model_isLetter (Rz r G) NC 0 0 0 [(0, vi a0)] [] G
  refine j_iloadn (k := 0) (D_Model_isLetter 0 rfl) rfl rfl ?_
  refine j_bipush (v := 97) (D_Model_isLetter 1 rfl) rfl ?_
  refine j_bipush (v := 122) (D_Model_isLetter 2 rfl) rfl ?_
  obtain ⟨q1, e1, h⟩ := Option.bind_eq_some_iff.mp h
  refine j_cSz (c_Model_isIn (ha0) (wr_lit rfl) (wr_lit rfl) e1) rfl lk_Model_188 sok_Model_isIn (by decide) rfl rfl (Nat.le_of_ble_eq_true rfl) (D_Model_isLetter 3 rfl) (fun w1 bw1 => ?_)
  refine j_if_ne (tgt := 22) (D_Model_isLetter 4 rfl) rfl (w1) (fun c1 => ?_) (fun c1 => ?_)
  · replace h := ite_f h c1
    refine j_iconst (v := 1) (D_Model_isLetter 10 rfl) rfl ?_
    refine j_goto (tgt := 27) (D_Model_isLetter 11 rfl) rfl ?_
    exact j_zret (D_Model_isLetter 13 rfl) rfl (wr_lit rfl) (nz_01 (by decide)) rfl rfl (leafZo h (wr_n (wr_lit rfl)) (by decide))
  · replace h := ite_t h c1
    refine j_iloadn (k := 0) (D_Model_isLetter 5 rfl) rfl rfl ?_
    refine j_bipush (v := 65) (D_Model_isLetter 6 rfl) rfl ?_
    refine j_bipush (v := 90) (D_Model_isLetter 7 rfl) rfl ?_
    obtain ⟨q2, e2, h⟩ := Option.bind_eq_some_iff.mp h
    refine j_cSz (c_Model_isIn (ha0) (wr_lit rfl) (wr_lit rfl) e2) rfl lk_Model_188 sok_Model_isIn (by decide) rfl rfl (Nat.le_of_ble_eq_true rfl) (D_Model_isLetter 8 rfl) (fun w2 bw2 => ?_)
    refine j_if_eq (tgt := 26) (D_Model_isLetter 9 rfl) rfl (w2) (fun c2 => ?_) (fun c2 => ?_)
    · replace h := ite_t h c2
      refine j_iconst (v := 0) (D_Model_isLetter 12 rfl) rfl ?_
      exact j_zret (D_Model_isLetter 13 rfl) rfl (wr_lit rfl) (nz_01 (by decide)) rfl rfl (leafZo h (wr_n (wr_lit rfl)) (by decide))
    · replace h := ite_f h c2
      refine j_iconst (v := 1) (D_Model_isLetter 10 rfl) rfl ?_
      refine j_goto (tgt := 27) (D_Model_isLetter 11 rfl) rfl ?_
      exact j_zret (D_Model_isLetter 13 rfl) rfl (wr_lit rfl) (nz_01 (by decide)) rfl rfl (leafZo h (wr_n (wr_lit rfl)) (by decide))
abbrev M_Model_is : MI := (⟨"InquestHallModel", "is", "(Ljava/lang/String;)Z"⟩, prog_14_method_28_code, 4, (some .boolean))
theorem cw_Model_is : Cond.code M_Model_is.1 M_Model_is.2.1 M_Model_is.2.2.1 M_Model_is.2.2.2 ∈ TS := mTS (List.mem_of_getElem? (i := 1665) (by decide +kernel)) (by decide +kernel)
theorem fa_Model_229 : FA "InquestHallModel" 229 12 44 false .int := ⟨_, _, _, _, ok_Model, by decide, mTS (List.mem_of_getElem? (i := 1345) (by decide +kernel)) (by decide +kernel), rfl, rfl⟩
theorem fa_Model_232 : FA "InquestHallModel" 232 12 46 false .int := ⟨_, _, _, _, ok_Model, by decide, mTS (List.mem_of_getElem? (i := 1347) (by decide +kernel)) (by decide +kernel), rfl, rfl⟩
theorem lk_Model_235 : Cond.methodLink "InquestHallModel" 235 M_String_length.1 ∈ TS := mTS (List.mem_of_getElem? (i := 1666) (by decide +kernel)) (by decide +kernel)
theorem lk_Model_241 : Cond.methodLink "InquestHallModel" 241 M_String_charAt.1 ∈ TS := mTS (List.mem_of_getElem? (i := 1667) (by decide +kernel)) (by decide +kernel)
def tb_Model_is : List (Nat × Instr × Nat) := [(0, .aload_n 0, 1), (1, .getfield 229, 3), (4, .aload_n 0, 1), (5, .getfield 232, 3), (8, .isub, 1), (9, .aload_n 1, 1), (10, .invokevirtual 235, 3), (13, .if_icmp .ne 7, 3), (16, .iconst 1, 1), (17, .goto 4, 3), (20, .iconst 0, 1), (21, .istore_n 2, 1), (22, .iconst 0, 1), (23, .istore_n 3, 1), (24, .iload_n 3, 1), (25, .aload_n 1, 1), (26, .invokevirtual 235, 3), (29, .if_icmp .ge 38, 3), (32, .iload_n 2, 1), (33, .ifCond .eq 34, 3), (36, .aload_n 0, 1), (37, .getfield 115, 3), (40, .aload_n 0, 1), (41, .getfield 232, 3), (44, .iload_n 3, 1), (45, .iadd, 1), (46, .iaload, 1), (47, .aload_n 1, 1), (48, .iload_n 3, 1), (49, .invokevirtual 241, 3), (52, .if_icmp .ne 7, 3), (55, .iconst 1, 1), (56, .goto 4, 3), (59, .iconst 0, 1), (60, .istore_n 2, 1), (61, .iinc 3 1, 3), (64, .goto (-40), 3), (67, .iload_n 2, 1), (68, .ireturn, 1)]
theorem D_Model_is (i : Nat) {pc len : Nat} {ins : Instr} (hi : tb_Model_is[i]? = some (pc, ins, len)) : decode M_Model_is.2.1 pc = .ok (ins, len) := dec_of (by decide +kernel) i hi
def f_Model_is_L60 (G : GS) (k24 : Nat → Int → Int → Option (Int)) (x1 : Nat) (x3 : Int) (s0 : Int) : Option (Int) :=
  k24 x1 s0 (wr (x3 + 1))
theorem s_Model_is_L60 {X : XT} {G : GS} {r : Int} {k24 : Nat → Int → Int → Option (Int)} (hk24 : ∀ {x1 : Nat} {x2 : Int} {x3 : Int} , x1 < 37 → wr x2 = x2 → wr x3 = x3 → k24 x1 x2 x3 = some r → J X true 9 0 0 M_Model_is (Rz r G) NC 0 0 24 [(0, rf X 81), (1, sr X x1), (2, vi x2), (3, vi x3)] [] G) : ∀ {x1 : Nat} {x3 : Int} {s0 : Int}, x1 < 37 → wr x3 = x3 → wr s0 = s0 → f_Model_is_L60 G k24 x1 x3 s0 = some r → J X true 9 0 0 M_Model_is (Rz r G) NC 0 0 60 [(0, rf X 81), (1, sr X x1), (3, vi x3)] [vi s0] G := by
  intro x1 x3 s0 hx1 hx3 hs0 h
  unfold f_Model_is_L60 at h
  refine j_istoren (L' := [(2, vi s0), (0, rf X 81), (1, sr X x1), (3, vi x3)]) (D_Model_is 34 rfl) rfl (hs0) (by decide) rfl ?_
  refine j_iinc (k := 3) (L' := [(3, vi (wr (x3 + 1))), (2, vi s0), (0, rf X 81), (1, sr X x1)]) (D_Model_is 35 rfl) rfl rfl (by decide) rfl ?_
  refine j_goto (tgt := 24) (D_Model_is 36 rfl) rfl ?_
  refine j_loc [2, 3, 1, 0] rfl ?_
  exact hk24 hx1 (hs0) (wr_wr _) h
def f_Model_is_L24 (G : GS) : Nat → Nat → Int → Int → Option (Int)
  | 0, _, _, _ => none
  | n + 1, x1, x2, x3 =>
    if lenI x1 ≤ x3 then
      gd (x2 = 0 ∨ x2 = 1) <|
      some x2
    else
      if x2 = 0 then
        gd (x2 = 0 ∨ x2 = 1) <|
        some x2
      else
        gd (0 ≤ wr ((gi G 81 46) + x3) ∧ wr ((gi G 81 46) + x3) < 800) <|
        gd (0 ≤ x3 ∧ x3 < lenI x1) <|
        if gi G 117 (wr ((gi G 81 46) + x3)).toNat = chS x1 (x3).toNat then
          f_Model_is_L60 G (f_Model_is_L24 G n) x1 x3 1
        else
          f_Model_is_L60 G (f_Model_is_L24 G n) x1 x3 0
theorem s_Model_is_L24 {X : XT} {G : GS} {r : Int} : ∀ (n : Nat) {x1 : Nat} {x2 : Int} {x3 : Int}, x1 < 37 → wr x2 = x2 → wr x3 = x3 → f_Model_is_L24 G n x1 x2 x3 = some r → J X true 9 0 0 M_Model_is (Rz r G) NC 0 0 24 [(0, rf X 81), (1, sr X x1), (2, vi x2), (3, vi x3)] [] G := by
  intro n
  induction n with
  | zero =>
    intro x1 x2 x3 hx1 hx2 hx3 h
    exact none_some h
  | succ n ih =>
    intro x1 x2 x3 hx1 hx2 hx3 h
    rw [f_Model_is_L24] at h
    refine j_iloadn (k := 3) (D_Model_is 14 rfl) rfl rfl ?_
    refine j_aloadn (k := 1) (D_Model_is 15 rfl) rfl rfl ?_
    refine j_cKi (c_String_length hx1) rfl lk_Model_235 mok_String_length hx1 (by decide) rfl rfl (Nat.le_of_ble_eq_true rfl) (D_Model_is 16 rfl) (fun _ => ?_)
    refine j_ic_ge (tgt := 67) (D_Model_is 17 rfl) rfl (hx3) (wr_lenI hx1) (fun c1 => ?_) (fun c1 => ?_)
    · replace h := ite_t h c1
      refine j_iloadn (k := 2) (D_Model_is 37 rfl) rfl rfl ?_
      have g1 := gd_c h
      replace h := gd_s h
      exact j_zret (D_Model_is 38 rfl) rfl (hx2) (nz_01 g1) rfl rfl (leafZo h (wr_n (hx2)) g1)
    · replace h := ite_f h c1
      refine j_iloadn (k := 2) (D_Model_is 18 rfl) rfl rfl ?_
      refine j_if_eq (tgt := 67) (D_Model_is 19 rfl) rfl (hx2) (fun c2 => ?_) (fun c2 => ?_)
      · replace h := ite_t h c2
        refine j_iloadn (k := 2) (D_Model_is 37 rfl) rfl rfl ?_
        have g2 := gd_c h
        replace h := gd_s h
        exact j_zret (D_Model_is 38 rfl) rfl (hx2) (nz_01 g2) rfl rfl (leafZo h (wr_n (hx2)) g2)
      · replace h := ite_f h c2
        refine j_aloadn (k := 0) (D_Model_is 20 rfl) rfl rfl ?_
        refine j_getR rfl fa_Model_115 kd_81 lc_81 (by decide) rfl fx_81_39 (by decide) (D_Model_is 21 rfl) ?_
        refine j_aloadn (k := 0) (D_Model_is 22 rfl) rfl rfl ?_
        refine j_getI rfl fa_Model_232 kd_81 lc_81 (by decide) rfl (D_Model_is 23 rfl) ?_
        refine j_iloadn (k := 3) (D_Model_is 24 rfl) rfl rfl ?_
        refine j_iadd (D_Model_is 25 rfl) ?_
        have g3 := gd_c h
        replace h := gd_s h
        refine j_iald (NI := 800) (D_Model_is 26 rfl) kd_117 lc_117 (rfl) rfl g3.1 g3.2 ?_
        refine j_aloadn (k := 1) (D_Model_is 27 rfl) rfl rfl ?_
        refine j_iloadn (k := 3) (D_Model_is 28 rfl) rfl rfl ?_
        have g4 := gd_c h
        replace h := gd_s h
        refine j_cKi (c_String_charAt hx1 (hx3) g4.1 g4.2) rfl lk_Model_241 mok_String_charAt hx1 (by decide) rfl rfl (Nat.le_of_ble_eq_true rfl) (D_Model_is 29 rfl) (fun _ => ?_)
        refine j_ic_ne (tgt := 59) (D_Model_is 30 rfl) rfl (wr_gi _ _ _) (wr_chS _ _) (fun c3 => ?_) (fun c3 => ?_)
        · replace h := ite_f h c3
          refine j_iconst (v := 0) (D_Model_is 33 rfl) rfl ?_
          refine j_loc [0, 1, 3] rfl ?_
          exact s_Model_is_L60 ih hx1 (hx3) (wr_lit rfl) h
        · replace h := ite_t h c3
          refine j_iconst (v := 1) (D_Model_is 31 rfl) rfl ?_
          refine j_goto (tgt := 60) (D_Model_is 32 rfl) rfl ?_
          refine j_loc [0, 1, 3] rfl ?_
          exact s_Model_is_L60 ih hx1 (hx3) (wr_lit rfl) h
def f_Model_is_L21 (G : GS) (x1 : Nat) (s0 : Int) : Option (Int) :=
  f_Model_is_L24 G FU x1 s0 0
theorem s_Model_is_L21 {X : XT} {G : GS} {r : Int} : ∀ {x1 : Nat} {s0 : Int}, x1 < 37 → wr s0 = s0 → f_Model_is_L21 G x1 s0 = some r → J X true 9 0 0 M_Model_is (Rz r G) NC 0 0 21 [(0, rf X 81), (1, sr X x1)] [vi s0] G := by
  intro x1 s0 hx1 hs0 h
  unfold f_Model_is_L21 at h
  refine j_istoren (L' := [(2, vi s0), (0, rf X 81), (1, sr X x1)]) (D_Model_is 11 rfl) rfl (hs0) (by decide) rfl ?_
  refine j_iconst (v := 0) (D_Model_is 12 rfl) rfl ?_
  refine j_istoren (L' := [(3, vi 0), (2, vi s0), (0, rf X 81), (1, sr X x1)]) (D_Model_is 13 rfl) rfl (wr_lit rfl) (by decide) rfl ?_
  refine j_loc [2, 3, 1, 0] rfl ?_
  exact s_Model_is_L24 FU hx1 (hs0) (wr_lit rfl) h
def f_Model_is (G : GS) (a1 : Nat) : Option (Int) :=
  if wr ((gi G 81 44) - (gi G 81 46)) = lenI a1 then
    f_Model_is_L21 G a1 1
  else
    f_Model_is_L21 G a1 0
theorem c_Model_is {X : XT} {G : GS} {a1 : Nat} {r : Int} (ha1 : a1 < 37) (h : f_Model_is G a1 = some r) : Call X true 9 0 0 M_Model_is [rf X 81, sr X a1] NC G (Rz r G) := by
  refine Call_of_J cw_Model_is (by decide +kernel) (Nat.le_of_ble_eq_true rfl) ?_
  unfold f_Model_is at h
  show J X true 9 0 0 M_Model_is (Rz r G) NC 0 0 0 [(0, rf X 81), (1, sr X a1)] [] G
  refine j_aloadn (k := 0) (D_Model_is 0 rfl) rfl rfl ?_
  refine j_getI rfl fa_Model_229 kd_81 lc_81 (by decide) rfl (D_Model_is 1 rfl) ?_
  refine j_aloadn (k := 0) (D_Model_is 2 rfl) rfl rfl ?_
  refine j_getI rfl fa_Model_232 kd_81 lc_81 (by decide) rfl (D_Model_is 3 rfl) ?_
  refine j_isub (D_Model_is 4 rfl) ?_
  refine j_aloadn (k := 1) (D_Model_is 5 rfl) rfl rfl ?_
  refine j_cKi (c_String_length ha1) rfl lk_Model_235 mok_String_length ha1 (by decide) rfl rfl (Nat.le_of_ble_eq_true rfl) (D_Model_is 6 rfl) (fun _ => ?_)
  refine j_ic_ne (tgt := 20) (D_Model_is 7 rfl) rfl (rfl) (wr_lenI ha1) (fun c1 => ?_) (fun c1 => ?_)
  · replace h := ite_f h c1
    refine j_iconst (v := 0) (D_Model_is 10 rfl) rfl ?_
    refine j_loc [0, 1] rfl ?_
    exact s_Model_is_L21 ha1 (wr_lit rfl) h
  · replace h := ite_t h c1
    refine j_iconst (v := 1) (D_Model_is 8 rfl) rfl ?_
    refine j_goto (tgt := 21) (D_Model_is 9 rfl) rfl ?_
    refine j_loc [0, 1] rfl ?_
    exact s_Model_is_L21 ha1 (wr_lit rfl) h
abbrev M_Model_lawWord : MI := (⟨"InquestHallModel", "lawWord", "()I"⟩, prog_14_method_29_code, 1, (some .int))
theorem cw_Model_lawWord : Cond.code M_Model_lawWord.1 M_Model_lawWord.2.1 M_Model_lawWord.2.2.1 M_Model_lawWord.2.2.2 ∈ TS := mTS (List.mem_of_getElem? (i := 1660) (by decide +kernel)) (by decide +kernel)
theorem lk_Model_247 : Cond.methodLink "InquestHallModel" 247 M_Model_is.1 ∈ TS := mTS (List.mem_of_getElem? (i := 1662) (by decide +kernel)) (by decide +kernel)
theorem mok_Model_is : MOK M_Model_is 1 := ⟨mTS (List.mem_of_getElem? (i := 1664) (by decide +kernel)) (by decide +kernel), mTS (List.mem_of_getElem? (i := 69) (by decide +kernel)) (by decide +kernel), mTS (List.mem_of_getElem? (i := 139) (by decide +kernel)) (by decide +kernel), cw_Model_is, ⟨by decide, by decide, by decide +kernel⟩, by decide +kernel, by decide⟩
def tb_Model_lawWord : List (Nat × Instr × Nat) := [(0, .aload_n 0, 1), (1, .ldc 245, 2), (3, .invokevirtual 247, 3), (6, .ifCond .eq 5, 3), (9, .iconst 3, 1), (10, .ireturn, 1), (11, .aload_n 0, 1), (12, .ldc 251, 2), (14, .invokevirtual 247, 3), (17, .ifCond .eq 5, 3), (20, .iconst 4, 1), (21, .ireturn, 1), (22, .aload_n 0, 1), (23, .ldc 253, 2), (25, .invokevirtual 247, 3), (28, .ifCond .eq 5, 3), (31, .iconst 5, 1), (32, .ireturn, 1), (33, .aload_n 0, 1), (34, .ldc 255, 2), (36, .invokevirtual 247, 3), (39, .ifCond .eq 6, 3), (42, .bipush 6, 2), (44, .ireturn, 1), (45, .aload_n 0, 1), (46, .ldc_w 256, 3), (49, .invokevirtual 247, 3), (52, .ifCond .eq 6, 3), (55, .bipush 7, 2), (57, .ireturn, 1), (58, .aload_n 0, 1), (59, .ldc_w 257, 3), (62, .invokevirtual 247, 3), (65, .ifCond .eq 6, 3), (68, .bipush 8, 2), (70, .ireturn, 1), (71, .aload_n 0, 1), (72, .ldc_w 259, 3), (75, .invokevirtual 247, 3), (78, .ifCond .eq 6, 3), (81, .bipush 9, 2), (83, .ireturn, 1), (84, .aload_n 0, 1), (85, .ldc_w 261, 3), (88, .invokevirtual 247, 3), (91, .ifCond .eq 6, 3), (94, .bipush 10, 2), (96, .ireturn, 1), (97, .aload_n 0, 1), (98, .ldc_w 263, 3), (101, .invokevirtual 247, 3), (104, .ifCond .eq 6, 3), (107, .bipush 11, 2), (109, .ireturn, 1), (110, .aload_n 0, 1), (111, .ldc_w 264, 3), (114, .invokevirtual 247, 3), (117, .ifCond .eq 6, 3), (120, .bipush 12, 2), (122, .ireturn, 1), (123, .aload_n 0, 1), (124, .ldc_w 265, 3), (127, .invokevirtual 247, 3), (130, .ifCond .eq 6, 3), (133, .bipush 13, 2), (135, .ireturn, 1), (136, .aload_n 0, 1), (137, .ldc_w 267, 3), (140, .invokevirtual 247, 3), (143, .ifCond .eq 6, 3), (146, .bipush 14, 2), (148, .ireturn, 1), (149, .aload_n 0, 1), (150, .ldc_w 269, 3), (153, .invokevirtual 247, 3), (156, .ifCond .eq 6, 3), (159, .bipush 15, 2), (161, .ireturn, 1), (162, .aload_n 0, 1), (163, .ldc_w 270, 3), (166, .invokevirtual 247, 3), (169, .ifCond .eq 6, 3), (172, .bipush 16, 2), (174, .ireturn, 1), (175, .aload_n 0, 1), (176, .ldc_w 272, 3), (179, .invokevirtual 247, 3), (182, .ifCond .eq 6, 3), (185, .bipush 17, 2), (187, .ireturn, 1), (188, .aload_n 0, 1), (189, .ldc_w 274, 3), (192, .invokevirtual 247, 3), (195, .ifCond .eq 6, 3), (198, .bipush 18, 2), (200, .ireturn, 1), (201, .aload_n 0, 1), (202, .ldc_w 276, 3), (205, .invokevirtual 247, 3), (208, .ifCond .eq 6, 3), (211, .bipush 19, 2), (213, .ireturn, 1), (214, .aload_n 0, 1), (215, .ldc_w 277, 3), (218, .invokevirtual 247, 3), (221, .ifCond .eq 6, 3), (224, .bipush 20, 2), (226, .ireturn, 1), (227, .aload_n 0, 1), (228, .ldc_w 279, 3), (231, .invokevirtual 247, 3), (234, .ifCond .eq 7, 3), (237, .sipush 150, 3), (240, .ireturn, 1), (241, .aload_n 0, 1), (242, .ldc_w 281, 3), (245, .invokevirtual 247, 3), (248, .ifCond .eq 7, 3), (251, .sipush 151, 3), (254, .ireturn, 1), (255, .aload_n 0, 1), (256, .ldc_w 283, 3), (259, .invokevirtual 247, 3), (262, .ifCond .eq 7, 3), (265, .sipush 152, 3), (268, .ireturn, 1), (269, .aload_n 0, 1), (270, .ldc_w 285, 3), (273, .invokevirtual 247, 3), (276, .ifCond .eq 7, 3), (279, .sipush 160, 3), (282, .ireturn, 1), (283, .aload_n 0, 1), (284, .ldc_w 287, 3), (287, .invokevirtual 247, 3), (290, .ifCond .eq 7, 3), (293, .sipush 161, 3), (296, .ireturn, 1), (297, .aload_n 0, 1), (298, .ldc_w 289, 3), (301, .invokevirtual 247, 3), (304, .ifCond .eq 7, 3), (307, .sipush 162, 3), (310, .ireturn, 1), (311, .aload_n 0, 1), (312, .ldc_w 291, 3), (315, .invokevirtual 247, 3), (318, .ifCond .eq 7, 3), (321, .sipush 201, 3), (324, .ireturn, 1), (325, .aload_n 0, 1), (326, .ldc_w 292, 3), (329, .invokevirtual 247, 3), (332, .ifCond .eq 7, 3), (335, .sipush 202, 3), (338, .ireturn, 1), (339, .aload_n 0, 1), (340, .ldc_w 294, 3), (343, .invokevirtual 247, 3), (346, .ifCond .eq 7, 3), (349, .sipush 203, 3), (352, .ireturn, 1), (353, .aload_n 0, 1), (354, .ldc_w 295, 3), (357, .invokevirtual 247, 3), (360, .ifCond .eq 7, 3), (363, .sipush 204, 3), (366, .ireturn, 1), (367, .aload_n 0, 1), (368, .ldc_w 296, 3), (371, .invokevirtual 247, 3), (374, .ifCond .eq 7, 3), (377, .sipush 205, 3), (380, .ireturn, 1), (381, .aload_n 0, 1), (382, .ldc_w 298, 3), (385, .invokevirtual 247, 3), (388, .ifCond .eq 9, 3), (391, .sipush 207, 3), (394, .goto 4, 3), (397, .iconst 1, 1), (398, .ireturn, 1)]
theorem D_Model_lawWord (i : Nat) {pc len : Nat} {ins : Instr} (hi : tb_Model_lawWord[i]? = some (pc, ins, len)) : decode M_Model_lawWord.2.1 pc = .ok (ins, len) := dec_of (by decide +kernel) i hi
def f_Model_lawWord (G : GS) : Option (Int) :=
  (f_Model_is G 1).bind fun q1 =>
  if q1 = 0 then
    (f_Model_is G 2).bind fun q2 =>
    if q2 = 0 then
      (f_Model_is G 3).bind fun q3 =>
      if q3 = 0 then
        (f_Model_is G 4).bind fun q4 =>
        if q4 = 0 then
          (f_Model_is G 5).bind fun q5 =>
          if q5 = 0 then
            (f_Model_is G 6).bind fun q6 =>
            if q6 = 0 then
              (f_Model_is G 7).bind fun q7 =>
              if q7 = 0 then
                (f_Model_is G 8).bind fun q8 =>
                if q8 = 0 then
                  (f_Model_is G 9).bind fun q9 =>
                  if q9 = 0 then
                    (f_Model_is G 10).bind fun q10 =>
                    if q10 = 0 then
                      (f_Model_is G 11).bind fun q11 =>
                      if q11 = 0 then
                        (f_Model_is G 12).bind fun q12 =>
                        if q12 = 0 then
                          (f_Model_is G 13).bind fun q13 =>
                          if q13 = 0 then
                            (f_Model_is G 14).bind fun q14 =>
                            if q14 = 0 then
                              (f_Model_is G 15).bind fun q15 =>
                              if q15 = 0 then
                                (f_Model_is G 16).bind fun q16 =>
                                if q16 = 0 then
                                  (f_Model_is G 17).bind fun q17 =>
                                  if q17 = 0 then
                                    (f_Model_is G 18).bind fun q18 =>
                                    if q18 = 0 then
                                      (f_Model_is G 19).bind fun q19 =>
                                      if q19 = 0 then
                                        (f_Model_is G 20).bind fun q20 =>
                                        if q20 = 0 then
                                          (f_Model_is G 21).bind fun q21 =>
                                          if q21 = 0 then
                                            (f_Model_is G 22).bind fun q22 =>
                                            if q22 = 0 then
                                              (f_Model_is G 23).bind fun q23 =>
                                              if q23 = 0 then
                                                (f_Model_is G 24).bind fun q24 =>
                                                if q24 = 0 then
                                                  (f_Model_is G 25).bind fun q25 =>
                                                  if q25 = 0 then
                                                    (f_Model_is G 26).bind fun q26 =>
                                                    if q26 = 0 then
                                                      (f_Model_is G 27).bind fun q27 =>
                                                      if q27 = 0 then
                                                        (f_Model_is G 28).bind fun q28 =>
                                                        if q28 = 0 then
                                                          (f_Model_is G 29).bind fun q29 =>
                                                          if q29 = 0 then
                                                            (f_Model_is G 30).bind fun q30 =>
                                                            if q30 = 0 then
                                                              some 1
                                                            else
                                                              some 207
                                                          else
                                                            some 205
                                                        else
                                                          some 204
                                                      else
                                                        some 203
                                                    else
                                                      some 202
                                                  else
                                                    some 201
                                                else
                                                  some 162
                                              else
                                                some 161
                                            else
                                              some 160
                                          else
                                            some 152
                                        else
                                          some 151
                                      else
                                        some 150
                                    else
                                      some 20
                                  else
                                    some 19
                                else
                                  some 18
                              else
                                some 17
                            else
                              some 16
                          else
                            some 15
                        else
                          some 14
                      else
                        some 13
                    else
                      some 12
                  else
                    some 11
                else
                  some 10
              else
                some 9
            else
              some 8
          else
            some 7
        else
          some 6
      else
        some 5
    else
      some 4
  else
    some 3
theorem c_Model_lawWord {X : XT} {G : GS} {r : Int} (h : f_Model_lawWord G = some r) : Call X true 10 0 0 M_Model_lawWord [rf X 81] NC G (Ri r G) := by
  refine Call_of_J cw_Model_lawWord (by decide +kernel) (Nat.le_of_ble_eq_true rfl) ?_
  unfold f_Model_lawWord at h
  show J X true 10 0 0 M_Model_lawWord (Ri r G) NC 0 0 0 [(0, rf X 81)] [] G
  refine j_aloadn (k := 0) (D_Model_lawWord 0 rfl) rfl rfl ?_
  refine j_ldcS (i := 1) rfl rfl (D_Model_lawWord 1 rfl) ?_
  obtain ⟨q1, e1, h⟩ := Option.bind_eq_some_iff.mp h
  refine j_cVz (c_Model_is (by decide) e1) rfl lk_Model_247 mok_Model_is kd_81 lc_81 rfl (by decide) rfl rfl (Nat.le_of_ble_eq_true rfl) (D_Model_lawWord 2 rfl) (fun w1 bw1 => ?_)
  refine j_if_eq (tgt := 11) (D_Model_lawWord 3 rfl) rfl (w1) (fun c1 => ?_) (fun c1 => ?_)
  · replace h := ite_t h c1
    refine j_aloadn (k := 0) (D_Model_lawWord 6 rfl) rfl rfl ?_
    refine j_ldcS (i := 2) rfl rfl (D_Model_lawWord 7 rfl) ?_
    obtain ⟨q2, e2, h⟩ := Option.bind_eq_some_iff.mp h
    refine j_cVz (c_Model_is (by decide) e2) rfl lk_Model_247 mok_Model_is kd_81 lc_81 rfl (by decide) rfl rfl (Nat.le_of_ble_eq_true rfl) (D_Model_lawWord 8 rfl) (fun w2 bw2 => ?_)
    refine j_if_eq (tgt := 22) (D_Model_lawWord 9 rfl) rfl (w2) (fun c2 => ?_) (fun c2 => ?_)
    · replace h := ite_t h c2
      refine j_aloadn (k := 0) (D_Model_lawWord 12 rfl) rfl rfl ?_
      refine j_ldcS (i := 3) rfl rfl (D_Model_lawWord 13 rfl) ?_
      obtain ⟨q3, e3, h⟩ := Option.bind_eq_some_iff.mp h
      refine j_cVz (c_Model_is (by decide) e3) rfl lk_Model_247 mok_Model_is kd_81 lc_81 rfl (by decide) rfl rfl (Nat.le_of_ble_eq_true rfl) (D_Model_lawWord 14 rfl) (fun w3 bw3 => ?_)
      refine j_if_eq (tgt := 33) (D_Model_lawWord 15 rfl) rfl (w3) (fun c3 => ?_) (fun c3 => ?_)
      · replace h := ite_t h c3
        refine j_aloadn (k := 0) (D_Model_lawWord 18 rfl) rfl rfl ?_
        refine j_ldcS (i := 4) rfl rfl (D_Model_lawWord 19 rfl) ?_
        obtain ⟨q4, e4, h⟩ := Option.bind_eq_some_iff.mp h
        refine j_cVz (c_Model_is (by decide) e4) rfl lk_Model_247 mok_Model_is kd_81 lc_81 rfl (by decide) rfl rfl (Nat.le_of_ble_eq_true rfl) (D_Model_lawWord 20 rfl) (fun w4 bw4 => ?_)
        refine j_if_eq (tgt := 45) (D_Model_lawWord 21 rfl) rfl (w4) (fun c4 => ?_) (fun c4 => ?_)
        · replace h := ite_t h c4
          refine j_aloadn (k := 0) (D_Model_lawWord 24 rfl) rfl rfl ?_
          refine j_ldcwS (i := 5) rfl rfl (D_Model_lawWord 25 rfl) ?_
          obtain ⟨q5, e5, h⟩ := Option.bind_eq_some_iff.mp h
          refine j_cVz (c_Model_is (by decide) e5) rfl lk_Model_247 mok_Model_is kd_81 lc_81 rfl (by decide) rfl rfl (Nat.le_of_ble_eq_true rfl) (D_Model_lawWord 26 rfl) (fun w5 bw5 => ?_)
          refine j_if_eq (tgt := 58) (D_Model_lawWord 27 rfl) rfl (w5) (fun c5 => ?_) (fun c5 => ?_)
          · replace h := ite_t h c5
            refine j_aloadn (k := 0) (D_Model_lawWord 30 rfl) rfl rfl ?_
            refine j_ldcwS (i := 6) rfl rfl (D_Model_lawWord 31 rfl) ?_
            obtain ⟨q6, e6, h⟩ := Option.bind_eq_some_iff.mp h
            refine j_cVz (c_Model_is (by decide) e6) rfl lk_Model_247 mok_Model_is kd_81 lc_81 rfl (by decide) rfl rfl (Nat.le_of_ble_eq_true rfl) (D_Model_lawWord 32 rfl) (fun w6 bw6 => ?_)
            refine j_if_eq (tgt := 71) (D_Model_lawWord 33 rfl) rfl (w6) (fun c6 => ?_) (fun c6 => ?_)
            · replace h := ite_t h c6
              refine j_aloadn (k := 0) (D_Model_lawWord 36 rfl) rfl rfl ?_
              refine j_ldcwS (i := 7) rfl rfl (D_Model_lawWord 37 rfl) ?_
              obtain ⟨q7, e7, h⟩ := Option.bind_eq_some_iff.mp h
              refine j_cVz (c_Model_is (by decide) e7) rfl lk_Model_247 mok_Model_is kd_81 lc_81 rfl (by decide) rfl rfl (Nat.le_of_ble_eq_true rfl) (D_Model_lawWord 38 rfl) (fun w7 bw7 => ?_)
              refine j_if_eq (tgt := 84) (D_Model_lawWord 39 rfl) rfl (w7) (fun c7 => ?_) (fun c7 => ?_)
              · replace h := ite_t h c7
                refine j_aloadn (k := 0) (D_Model_lawWord 42 rfl) rfl rfl ?_
                refine j_ldcwS (i := 8) rfl rfl (D_Model_lawWord 43 rfl) ?_
                obtain ⟨q8, e8, h⟩ := Option.bind_eq_some_iff.mp h
                refine j_cVz (c_Model_is (by decide) e8) rfl lk_Model_247 mok_Model_is kd_81 lc_81 rfl (by decide) rfl rfl (Nat.le_of_ble_eq_true rfl) (D_Model_lawWord 44 rfl) (fun w8 bw8 => ?_)
                refine j_if_eq (tgt := 97) (D_Model_lawWord 45 rfl) rfl (w8) (fun c8 => ?_) (fun c8 => ?_)
                · replace h := ite_t h c8
                  refine j_aloadn (k := 0) (D_Model_lawWord 48 rfl) rfl rfl ?_
                  refine j_ldcwS (i := 9) rfl rfl (D_Model_lawWord 49 rfl) ?_
                  obtain ⟨q9, e9, h⟩ := Option.bind_eq_some_iff.mp h
                  refine j_cVz (c_Model_is (by decide) e9) rfl lk_Model_247 mok_Model_is kd_81 lc_81 rfl (by decide) rfl rfl (Nat.le_of_ble_eq_true rfl) (D_Model_lawWord 50 rfl) (fun w9 bw9 => ?_)
                  refine j_if_eq (tgt := 110) (D_Model_lawWord 51 rfl) rfl (w9) (fun c9 => ?_) (fun c9 => ?_)
                  · replace h := ite_t h c9
                    refine j_aloadn (k := 0) (D_Model_lawWord 54 rfl) rfl rfl ?_
                    refine j_ldcwS (i := 10) rfl rfl (D_Model_lawWord 55 rfl) ?_
                    obtain ⟨q10, e10, h⟩ := Option.bind_eq_some_iff.mp h
                    refine j_cVz (c_Model_is (by decide) e10) rfl lk_Model_247 mok_Model_is kd_81 lc_81 rfl (by decide) rfl rfl (Nat.le_of_ble_eq_true rfl) (D_Model_lawWord 56 rfl) (fun w10 bw10 => ?_)
                    refine j_if_eq (tgt := 123) (D_Model_lawWord 57 rfl) rfl (w10) (fun c10 => ?_) (fun c10 => ?_)
                    · replace h := ite_t h c10
                      refine j_aloadn (k := 0) (D_Model_lawWord 60 rfl) rfl rfl ?_
                      refine j_ldcwS (i := 11) rfl rfl (D_Model_lawWord 61 rfl) ?_
                      obtain ⟨q11, e11, h⟩ := Option.bind_eq_some_iff.mp h
                      refine j_cVz (c_Model_is (by decide) e11) rfl lk_Model_247 mok_Model_is kd_81 lc_81 rfl (by decide) rfl rfl (Nat.le_of_ble_eq_true rfl) (D_Model_lawWord 62 rfl) (fun w11 bw11 => ?_)
                      refine j_if_eq (tgt := 136) (D_Model_lawWord 63 rfl) rfl (w11) (fun c11 => ?_) (fun c11 => ?_)
                      · replace h := ite_t h c11
                        refine j_aloadn (k := 0) (D_Model_lawWord 66 rfl) rfl rfl ?_
                        refine j_ldcwS (i := 12) rfl rfl (D_Model_lawWord 67 rfl) ?_
                        obtain ⟨q12, e12, h⟩ := Option.bind_eq_some_iff.mp h
                        refine j_cVz (c_Model_is (by decide) e12) rfl lk_Model_247 mok_Model_is kd_81 lc_81 rfl (by decide) rfl rfl (Nat.le_of_ble_eq_true rfl) (D_Model_lawWord 68 rfl) (fun w12 bw12 => ?_)
                        refine j_if_eq (tgt := 149) (D_Model_lawWord 69 rfl) rfl (w12) (fun c12 => ?_) (fun c12 => ?_)
                        · replace h := ite_t h c12
                          refine j_aloadn (k := 0) (D_Model_lawWord 72 rfl) rfl rfl ?_
                          refine j_ldcwS (i := 13) rfl rfl (D_Model_lawWord 73 rfl) ?_
                          obtain ⟨q13, e13, h⟩ := Option.bind_eq_some_iff.mp h
                          refine j_cVz (c_Model_is (by decide) e13) rfl lk_Model_247 mok_Model_is kd_81 lc_81 rfl (by decide) rfl rfl (Nat.le_of_ble_eq_true rfl) (D_Model_lawWord 74 rfl) (fun w13 bw13 => ?_)
                          refine j_if_eq (tgt := 162) (D_Model_lawWord 75 rfl) rfl (w13) (fun c13 => ?_) (fun c13 => ?_)
                          · replace h := ite_t h c13
                            refine j_aloadn (k := 0) (D_Model_lawWord 78 rfl) rfl rfl ?_
                            refine j_ldcwS (i := 14) rfl rfl (D_Model_lawWord 79 rfl) ?_
                            obtain ⟨q14, e14, h⟩ := Option.bind_eq_some_iff.mp h
                            refine j_cVz (c_Model_is (by decide) e14) rfl lk_Model_247 mok_Model_is kd_81 lc_81 rfl (by decide) rfl rfl (Nat.le_of_ble_eq_true rfl) (D_Model_lawWord 80 rfl) (fun w14 bw14 => ?_)
                            refine j_if_eq (tgt := 175) (D_Model_lawWord 81 rfl) rfl (w14) (fun c14 => ?_) (fun c14 => ?_)
                            · replace h := ite_t h c14
                              refine j_aloadn (k := 0) (D_Model_lawWord 84 rfl) rfl rfl ?_
                              refine j_ldcwS (i := 15) rfl rfl (D_Model_lawWord 85 rfl) ?_
                              obtain ⟨q15, e15, h⟩ := Option.bind_eq_some_iff.mp h
                              refine j_cVz (c_Model_is (by decide) e15) rfl lk_Model_247 mok_Model_is kd_81 lc_81 rfl (by decide) rfl rfl (Nat.le_of_ble_eq_true rfl) (D_Model_lawWord 86 rfl) (fun w15 bw15 => ?_)
                              refine j_if_eq (tgt := 188) (D_Model_lawWord 87 rfl) rfl (w15) (fun c15 => ?_) (fun c15 => ?_)
                              · replace h := ite_t h c15
                                refine j_aloadn (k := 0) (D_Model_lawWord 90 rfl) rfl rfl ?_
                                refine j_ldcwS (i := 16) rfl rfl (D_Model_lawWord 91 rfl) ?_
                                obtain ⟨q16, e16, h⟩ := Option.bind_eq_some_iff.mp h
                                refine j_cVz (c_Model_is (by decide) e16) rfl lk_Model_247 mok_Model_is kd_81 lc_81 rfl (by decide) rfl rfl (Nat.le_of_ble_eq_true rfl) (D_Model_lawWord 92 rfl) (fun w16 bw16 => ?_)
                                refine j_if_eq (tgt := 201) (D_Model_lawWord 93 rfl) rfl (w16) (fun c16 => ?_) (fun c16 => ?_)
                                · replace h := ite_t h c16
                                  refine j_aloadn (k := 0) (D_Model_lawWord 96 rfl) rfl rfl ?_
                                  refine j_ldcwS (i := 17) rfl rfl (D_Model_lawWord 97 rfl) ?_
                                  obtain ⟨q17, e17, h⟩ := Option.bind_eq_some_iff.mp h
                                  refine j_cVz (c_Model_is (by decide) e17) rfl lk_Model_247 mok_Model_is kd_81 lc_81 rfl (by decide) rfl rfl (Nat.le_of_ble_eq_true rfl) (D_Model_lawWord 98 rfl) (fun w17 bw17 => ?_)
                                  refine j_if_eq (tgt := 214) (D_Model_lawWord 99 rfl) rfl (w17) (fun c17 => ?_) (fun c17 => ?_)
                                  · replace h := ite_t h c17
                                    refine j_aloadn (k := 0) (D_Model_lawWord 102 rfl) rfl rfl ?_
                                    refine j_ldcwS (i := 18) rfl rfl (D_Model_lawWord 103 rfl) ?_
                                    obtain ⟨q18, e18, h⟩ := Option.bind_eq_some_iff.mp h
                                    refine j_cVz (c_Model_is (by decide) e18) rfl lk_Model_247 mok_Model_is kd_81 lc_81 rfl (by decide) rfl rfl (Nat.le_of_ble_eq_true rfl) (D_Model_lawWord 104 rfl) (fun w18 bw18 => ?_)
                                    refine j_if_eq (tgt := 227) (D_Model_lawWord 105 rfl) rfl (w18) (fun c18 => ?_) (fun c18 => ?_)
                                    · replace h := ite_t h c18
                                      refine j_aloadn (k := 0) (D_Model_lawWord 108 rfl) rfl rfl ?_
                                      refine j_ldcwS (i := 19) rfl rfl (D_Model_lawWord 109 rfl) ?_
                                      obtain ⟨q19, e19, h⟩ := Option.bind_eq_some_iff.mp h
                                      refine j_cVz (c_Model_is (by decide) e19) rfl lk_Model_247 mok_Model_is kd_81 lc_81 rfl (by decide) rfl rfl (Nat.le_of_ble_eq_true rfl) (D_Model_lawWord 110 rfl) (fun w19 bw19 => ?_)
                                      refine j_if_eq (tgt := 241) (D_Model_lawWord 111 rfl) rfl (w19) (fun c19 => ?_) (fun c19 => ?_)
                                      · replace h := ite_t h c19
                                        refine j_aloadn (k := 0) (D_Model_lawWord 114 rfl) rfl rfl ?_
                                        refine j_ldcwS (i := 20) rfl rfl (D_Model_lawWord 115 rfl) ?_
                                        obtain ⟨q20, e20, h⟩ := Option.bind_eq_some_iff.mp h
                                        refine j_cVz (c_Model_is (by decide) e20) rfl lk_Model_247 mok_Model_is kd_81 lc_81 rfl (by decide) rfl rfl (Nat.le_of_ble_eq_true rfl) (D_Model_lawWord 116 rfl) (fun w20 bw20 => ?_)
                                        refine j_if_eq (tgt := 255) (D_Model_lawWord 117 rfl) rfl (w20) (fun c20 => ?_) (fun c20 => ?_)
                                        · replace h := ite_t h c20
                                          refine j_aloadn (k := 0) (D_Model_lawWord 120 rfl) rfl rfl ?_
                                          refine j_ldcwS (i := 21) rfl rfl (D_Model_lawWord 121 rfl) ?_
                                          obtain ⟨q21, e21, h⟩ := Option.bind_eq_some_iff.mp h
                                          refine j_cVz (c_Model_is (by decide) e21) rfl lk_Model_247 mok_Model_is kd_81 lc_81 rfl (by decide) rfl rfl (Nat.le_of_ble_eq_true rfl) (D_Model_lawWord 122 rfl) (fun w21 bw21 => ?_)
                                          refine j_if_eq (tgt := 269) (D_Model_lawWord 123 rfl) rfl (w21) (fun c21 => ?_) (fun c21 => ?_)
                                          · replace h := ite_t h c21
                                            refine j_aloadn (k := 0) (D_Model_lawWord 126 rfl) rfl rfl ?_
                                            refine j_ldcwS (i := 22) rfl rfl (D_Model_lawWord 127 rfl) ?_
                                            obtain ⟨q22, e22, h⟩ := Option.bind_eq_some_iff.mp h
                                            refine j_cVz (c_Model_is (by decide) e22) rfl lk_Model_247 mok_Model_is kd_81 lc_81 rfl (by decide) rfl rfl (Nat.le_of_ble_eq_true rfl) (D_Model_lawWord 128 rfl) (fun w22 bw22 => ?_)
                                            refine j_if_eq (tgt := 283) (D_Model_lawWord 129 rfl) rfl (w22) (fun c22 => ?_) (fun c22 => ?_)
                                            · replace h := ite_t h c22
                                              refine j_aloadn (k := 0) (D_Model_lawWord 132 rfl) rfl rfl ?_
                                              refine j_ldcwS (i := 23) rfl rfl (D_Model_lawWord 133 rfl) ?_
                                              obtain ⟨q23, e23, h⟩ := Option.bind_eq_some_iff.mp h
                                              refine j_cVz (c_Model_is (by decide) e23) rfl lk_Model_247 mok_Model_is kd_81 lc_81 rfl (by decide) rfl rfl (Nat.le_of_ble_eq_true rfl) (D_Model_lawWord 134 rfl) (fun w23 bw23 => ?_)
                                              refine j_if_eq (tgt := 297) (D_Model_lawWord 135 rfl) rfl (w23) (fun c23 => ?_) (fun c23 => ?_)
                                              · replace h := ite_t h c23
                                                refine j_aloadn (k := 0) (D_Model_lawWord 138 rfl) rfl rfl ?_
                                                refine j_ldcwS (i := 24) rfl rfl (D_Model_lawWord 139 rfl) ?_
                                                obtain ⟨q24, e24, h⟩ := Option.bind_eq_some_iff.mp h
                                                refine j_cVz (c_Model_is (by decide) e24) rfl lk_Model_247 mok_Model_is kd_81 lc_81 rfl (by decide) rfl rfl (Nat.le_of_ble_eq_true rfl) (D_Model_lawWord 140 rfl) (fun w24 bw24 => ?_)
                                                refine j_if_eq (tgt := 311) (D_Model_lawWord 141 rfl) rfl (w24) (fun c24 => ?_) (fun c24 => ?_)
                                                · replace h := ite_t h c24
                                                  refine j_aloadn (k := 0) (D_Model_lawWord 144 rfl) rfl rfl ?_
                                                  refine j_ldcwS (i := 25) rfl rfl (D_Model_lawWord 145 rfl) ?_
                                                  obtain ⟨q25, e25, h⟩ := Option.bind_eq_some_iff.mp h
                                                  refine j_cVz (c_Model_is (by decide) e25) rfl lk_Model_247 mok_Model_is kd_81 lc_81 rfl (by decide) rfl rfl (Nat.le_of_ble_eq_true rfl) (D_Model_lawWord 146 rfl) (fun w25 bw25 => ?_)
                                                  refine j_if_eq (tgt := 325) (D_Model_lawWord 147 rfl) rfl (w25) (fun c25 => ?_) (fun c25 => ?_)
                                                  · replace h := ite_t h c25
                                                    refine j_aloadn (k := 0) (D_Model_lawWord 150 rfl) rfl rfl ?_
                                                    refine j_ldcwS (i := 26) rfl rfl (D_Model_lawWord 151 rfl) ?_
                                                    obtain ⟨q26, e26, h⟩ := Option.bind_eq_some_iff.mp h
                                                    refine j_cVz (c_Model_is (by decide) e26) rfl lk_Model_247 mok_Model_is kd_81 lc_81 rfl (by decide) rfl rfl (Nat.le_of_ble_eq_true rfl) (D_Model_lawWord 152 rfl) (fun w26 bw26 => ?_)
                                                    refine j_if_eq (tgt := 339) (D_Model_lawWord 153 rfl) rfl (w26) (fun c26 => ?_) (fun c26 => ?_)
                                                    · replace h := ite_t h c26
                                                      refine j_aloadn (k := 0) (D_Model_lawWord 156 rfl) rfl rfl ?_
                                                      refine j_ldcwS (i := 27) rfl rfl (D_Model_lawWord 157 rfl) ?_
                                                      obtain ⟨q27, e27, h⟩ := Option.bind_eq_some_iff.mp h
                                                      refine j_cVz (c_Model_is (by decide) e27) rfl lk_Model_247 mok_Model_is kd_81 lc_81 rfl (by decide) rfl rfl (Nat.le_of_ble_eq_true rfl) (D_Model_lawWord 158 rfl) (fun w27 bw27 => ?_)
                                                      refine j_if_eq (tgt := 353) (D_Model_lawWord 159 rfl) rfl (w27) (fun c27 => ?_) (fun c27 => ?_)
                                                      · replace h := ite_t h c27
                                                        refine j_aloadn (k := 0) (D_Model_lawWord 162 rfl) rfl rfl ?_
                                                        refine j_ldcwS (i := 28) rfl rfl (D_Model_lawWord 163 rfl) ?_
                                                        obtain ⟨q28, e28, h⟩ := Option.bind_eq_some_iff.mp h
                                                        refine j_cVz (c_Model_is (by decide) e28) rfl lk_Model_247 mok_Model_is kd_81 lc_81 rfl (by decide) rfl rfl (Nat.le_of_ble_eq_true rfl) (D_Model_lawWord 164 rfl) (fun w28 bw28 => ?_)
                                                        refine j_if_eq (tgt := 367) (D_Model_lawWord 165 rfl) rfl (w28) (fun c28 => ?_) (fun c28 => ?_)
                                                        · replace h := ite_t h c28
                                                          refine j_aloadn (k := 0) (D_Model_lawWord 168 rfl) rfl rfl ?_
                                                          refine j_ldcwS (i := 29) rfl rfl (D_Model_lawWord 169 rfl) ?_
                                                          obtain ⟨q29, e29, h⟩ := Option.bind_eq_some_iff.mp h
                                                          refine j_cVz (c_Model_is (by decide) e29) rfl lk_Model_247 mok_Model_is kd_81 lc_81 rfl (by decide) rfl rfl (Nat.le_of_ble_eq_true rfl) (D_Model_lawWord 170 rfl) (fun w29 bw29 => ?_)
                                                          refine j_if_eq (tgt := 381) (D_Model_lawWord 171 rfl) rfl (w29) (fun c29 => ?_) (fun c29 => ?_)
                                                          · replace h := ite_t h c29
                                                            refine j_aloadn (k := 0) (D_Model_lawWord 174 rfl) rfl rfl ?_
                                                            refine j_ldcwS (i := 30) rfl rfl (D_Model_lawWord 175 rfl) ?_
                                                            obtain ⟨q30, e30, h⟩ := Option.bind_eq_some_iff.mp h
                                                            refine j_cVz (c_Model_is (by decide) e30) rfl lk_Model_247 mok_Model_is kd_81 lc_81 rfl (by decide) rfl rfl (Nat.le_of_ble_eq_true rfl) (D_Model_lawWord 176 rfl) (fun w30 bw30 => ?_)
                                                            refine j_if_eq (tgt := 397) (D_Model_lawWord 177 rfl) rfl (w30) (fun c30 => ?_) (fun c30 => ?_)
                                                            · replace h := ite_t h c30
                                                              refine j_iconst (v := 1) (D_Model_lawWord 180 rfl) rfl ?_
                                                              exact j_iret (D_Model_lawWord 181 rfl) rfl (wr_lit rfl) rfl rfl (leafIo h (wr_n (wr_lit rfl)))
                                                            · replace h := ite_f h c30
                                                              refine j_sipush (v := 207) (D_Model_lawWord 178 rfl) rfl ?_
                                                              refine j_goto (tgt := 398) (D_Model_lawWord 179 rfl) rfl ?_
                                                              exact j_iret (D_Model_lawWord 181 rfl) rfl (wr_lit rfl) rfl rfl (leafIo h (wr_n (wr_lit rfl)))
                                                          · replace h := ite_f h c29
                                                            refine j_sipush (v := 205) (D_Model_lawWord 172 rfl) rfl ?_
                                                            exact j_iret (D_Model_lawWord 173 rfl) rfl (wr_lit rfl) rfl rfl (leafIo h (wr_n (wr_lit rfl)))
                                                        · replace h := ite_f h c28
                                                          refine j_sipush (v := 204) (D_Model_lawWord 166 rfl) rfl ?_
                                                          exact j_iret (D_Model_lawWord 167 rfl) rfl (wr_lit rfl) rfl rfl (leafIo h (wr_n (wr_lit rfl)))
                                                      · replace h := ite_f h c27
                                                        refine j_sipush (v := 203) (D_Model_lawWord 160 rfl) rfl ?_
                                                        exact j_iret (D_Model_lawWord 161 rfl) rfl (wr_lit rfl) rfl rfl (leafIo h (wr_n (wr_lit rfl)))
                                                    · replace h := ite_f h c26
                                                      refine j_sipush (v := 202) (D_Model_lawWord 154 rfl) rfl ?_
                                                      exact j_iret (D_Model_lawWord 155 rfl) rfl (wr_lit rfl) rfl rfl (leafIo h (wr_n (wr_lit rfl)))
                                                  · replace h := ite_f h c25
                                                    refine j_sipush (v := 201) (D_Model_lawWord 148 rfl) rfl ?_
                                                    exact j_iret (D_Model_lawWord 149 rfl) rfl (wr_lit rfl) rfl rfl (leafIo h (wr_n (wr_lit rfl)))
                                                · replace h := ite_f h c24
                                                  refine j_sipush (v := 162) (D_Model_lawWord 142 rfl) rfl ?_
                                                  exact j_iret (D_Model_lawWord 143 rfl) rfl (wr_lit rfl) rfl rfl (leafIo h (wr_n (wr_lit rfl)))
                                              · replace h := ite_f h c23
                                                refine j_sipush (v := 161) (D_Model_lawWord 136 rfl) rfl ?_
                                                exact j_iret (D_Model_lawWord 137 rfl) rfl (wr_lit rfl) rfl rfl (leafIo h (wr_n (wr_lit rfl)))
                                            · replace h := ite_f h c22
                                              refine j_sipush (v := 160) (D_Model_lawWord 130 rfl) rfl ?_
                                              exact j_iret (D_Model_lawWord 131 rfl) rfl (wr_lit rfl) rfl rfl (leafIo h (wr_n (wr_lit rfl)))
                                          · replace h := ite_f h c21
                                            refine j_sipush (v := 152) (D_Model_lawWord 124 rfl) rfl ?_
                                            exact j_iret (D_Model_lawWord 125 rfl) rfl (wr_lit rfl) rfl rfl (leafIo h (wr_n (wr_lit rfl)))
                                        · replace h := ite_f h c20
                                          refine j_sipush (v := 151) (D_Model_lawWord 118 rfl) rfl ?_
                                          exact j_iret (D_Model_lawWord 119 rfl) rfl (wr_lit rfl) rfl rfl (leafIo h (wr_n (wr_lit rfl)))
                                      · replace h := ite_f h c19
                                        refine j_sipush (v := 150) (D_Model_lawWord 112 rfl) rfl ?_
                                        exact j_iret (D_Model_lawWord 113 rfl) rfl (wr_lit rfl) rfl rfl (leafIo h (wr_n (wr_lit rfl)))
                                    · replace h := ite_f h c18
                                      refine j_bipush (v := 20) (D_Model_lawWord 106 rfl) rfl ?_
                                      exact j_iret (D_Model_lawWord 107 rfl) rfl (wr_lit rfl) rfl rfl (leafIo h (wr_n (wr_lit rfl)))
                                  · replace h := ite_f h c17
                                    refine j_bipush (v := 19) (D_Model_lawWord 100 rfl) rfl ?_
                                    exact j_iret (D_Model_lawWord 101 rfl) rfl (wr_lit rfl) rfl rfl (leafIo h (wr_n (wr_lit rfl)))
                                · replace h := ite_f h c16
                                  refine j_bipush (v := 18) (D_Model_lawWord 94 rfl) rfl ?_
                                  exact j_iret (D_Model_lawWord 95 rfl) rfl (wr_lit rfl) rfl rfl (leafIo h (wr_n (wr_lit rfl)))
                              · replace h := ite_f h c15
                                refine j_bipush (v := 17) (D_Model_lawWord 88 rfl) rfl ?_
                                exact j_iret (D_Model_lawWord 89 rfl) rfl (wr_lit rfl) rfl rfl (leafIo h (wr_n (wr_lit rfl)))
                            · replace h := ite_f h c14
                              refine j_bipush (v := 16) (D_Model_lawWord 82 rfl) rfl ?_
                              exact j_iret (D_Model_lawWord 83 rfl) rfl (wr_lit rfl) rfl rfl (leafIo h (wr_n (wr_lit rfl)))
                          · replace h := ite_f h c13
                            refine j_bipush (v := 15) (D_Model_lawWord 76 rfl) rfl ?_
                            exact j_iret (D_Model_lawWord 77 rfl) rfl (wr_lit rfl) rfl rfl (leafIo h (wr_n (wr_lit rfl)))
                        · replace h := ite_f h c12
                          refine j_bipush (v := 14) (D_Model_lawWord 70 rfl) rfl ?_
                          exact j_iret (D_Model_lawWord 71 rfl) rfl (wr_lit rfl) rfl rfl (leafIo h (wr_n (wr_lit rfl)))
                      · replace h := ite_f h c11
                        refine j_bipush (v := 13) (D_Model_lawWord 64 rfl) rfl ?_
                        exact j_iret (D_Model_lawWord 65 rfl) rfl (wr_lit rfl) rfl rfl (leafIo h (wr_n (wr_lit rfl)))
                    · replace h := ite_f h c10
                      refine j_bipush (v := 12) (D_Model_lawWord 58 rfl) rfl ?_
                      exact j_iret (D_Model_lawWord 59 rfl) rfl (wr_lit rfl) rfl rfl (leafIo h (wr_n (wr_lit rfl)))
                  · replace h := ite_f h c9
                    refine j_bipush (v := 11) (D_Model_lawWord 52 rfl) rfl ?_
                    exact j_iret (D_Model_lawWord 53 rfl) rfl (wr_lit rfl) rfl rfl (leafIo h (wr_n (wr_lit rfl)))
                · replace h := ite_f h c8
                  refine j_bipush (v := 10) (D_Model_lawWord 46 rfl) rfl ?_
                  exact j_iret (D_Model_lawWord 47 rfl) rfl (wr_lit rfl) rfl rfl (leafIo h (wr_n (wr_lit rfl)))
              · replace h := ite_f h c7
                refine j_bipush (v := 9) (D_Model_lawWord 40 rfl) rfl ?_
                exact j_iret (D_Model_lawWord 41 rfl) rfl (wr_lit rfl) rfl rfl (leafIo h (wr_n (wr_lit rfl)))
            · replace h := ite_f h c6
              refine j_bipush (v := 8) (D_Model_lawWord 34 rfl) rfl ?_
              exact j_iret (D_Model_lawWord 35 rfl) rfl (wr_lit rfl) rfl rfl (leafIo h (wr_n (wr_lit rfl)))
          · replace h := ite_f h c5
            refine j_bipush (v := 7) (D_Model_lawWord 28 rfl) rfl ?_
            exact j_iret (D_Model_lawWord 29 rfl) rfl (wr_lit rfl) rfl rfl (leafIo h (wr_n (wr_lit rfl)))
        · replace h := ite_f h c4
          refine j_bipush (v := 6) (D_Model_lawWord 22 rfl) rfl ?_
          exact j_iret (D_Model_lawWord 23 rfl) rfl (wr_lit rfl) rfl rfl (leafIo h (wr_n (wr_lit rfl)))
      · replace h := ite_f h c3
        refine j_iconst (v := 5) (D_Model_lawWord 16 rfl) rfl ?_
        exact j_iret (D_Model_lawWord 17 rfl) rfl (wr_lit rfl) rfl rfl (leafIo h (wr_n (wr_lit rfl)))
    · replace h := ite_f h c2
      refine j_iconst (v := 4) (D_Model_lawWord 10 rfl) rfl ?_
      exact j_iret (D_Model_lawWord 11 rfl) rfl (wr_lit rfl) rfl rfl (leafIo h (wr_n (wr_lit rfl)))
  · replace h := ite_f h c1
    refine j_iconst (v := 3) (D_Model_lawWord 4 rfl) rfl ?_
    exact j_iret (D_Model_lawWord 5 rfl) rfl (wr_lit rfl) rfl rfl (leafIo h (wr_n (wr_lit rfl)))
