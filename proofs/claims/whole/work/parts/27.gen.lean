/-! printed by wip/whole/gen.py out of the listing of the bytecode -/
abbrev M_Juries_isAtPeace : MI := (⟨"InquestHall$Juries", "isAtPeace", "(I)Z"⟩, prog_3_method_8_code, 3, (some .boolean))
theorem cw_Juries_isAtPeace : Cond.code M_Juries_isAtPeace.1 M_Juries_isAtPeace.2.1 M_Juries_isAtPeace.2.2.1 M_Juries_isAtPeace.2.2.2 ∈ TS := mTS (List.mem_of_getElem? (i := 1276) (by decide +kernel)) (by decide +kernel)
theorem lk_Juries_50 : Cond.methodLink "InquestHall$Juries" 50 M_Juries_layHeld.1 ∈ TS := mTS (List.mem_of_getElem? (i := 1277) (by decide +kernel)) (by decide +kernel)
theorem mok_Juries_layHeld : MOK M_Juries_layHeld 1 := ⟨mTS (List.mem_of_getElem? (i := 1279) (by decide +kernel)) (by decide +kernel), mTS (List.mem_of_getElem? (i := 58) (by decide +kernel)) (by decide +kernel), mTS (List.mem_of_getElem? (i := 137) (by decide +kernel)) (by decide +kernel), cw_Juries_layHeld, ⟨by decide, by decide, by decide +kernel⟩, by decide +kernel, by decide⟩
theorem lk_Juries_58 : Cond.methodLink "InquestHall$Juries" 58 M_Juries_above.1 ∈ TS := mTS (List.mem_of_getElem? (i := 1281) (by decide +kernel)) (by decide +kernel)
theorem mok_Juries_above : MOK M_Juries_above 2 := ⟨mTS (List.mem_of_getElem? (i := 1282) (by decide +kernel)) (by decide +kernel), mTS (List.mem_of_getElem? (i := 1283) (by decide +kernel)) (by decide +kernel), mTS (List.mem_of_getElem? (i := 137) (by decide +kernel)) (by decide +kernel), cw_Juries_above, ⟨by decide, by decide, by decide +kernel⟩, by decide +kernel, by decide⟩
def tb_Juries_isAtPeace : List (Nat × Instr × Nat) := [(0, .iconst 0, 1), (1, .istore_n 2, 1), (2, .iload_n 2, 1), (3, .bipush 10, 2), (5, .if_icmp .ge 30, 3), (8, .iload_n 1, 1), (9, .iconst 1, 1), (10, .iload_n 2, 1), (11, .ishl, 1), (12, .iand, 1), (13, .ifCond .eq 16, 3), (16, .aload_n 0, 1), (17, .getfield 17, 3), (20, .iload_n 2, 1), (21, .iaload, 1), (22, .iload_n 1, 1), (23, .iand, 1), (24, .ifCond .eq 5, 3), (27, .iconst 0, 1), (28, .ireturn, 1), (29, .iinc 2 1, 3), (32, .goto (-30), 3), (35, .aload_n 0, 1), (36, .iload_n 1, 1), (37, .invokevirtual 50, 3), (40, .iconst 0, 1), (41, .istore_n 2, 1), (42, .iload_n 2, 1), (43, .bipush 12, 2), (45, .if_icmp .ge 22, 3), (48, .aload_n 0, 1), (49, .iload_n 2, 1), (50, .bipush 11, 2), (52, .invokevirtual 58, 3), (55, .iconst (-1), 1), (56, .if_icmp .eq 5, 3), (59, .iconst 0, 1), (60, .ireturn, 1), (61, .iinc 2 1, 3), (64, .goto (-22), 3), (67, .iconst 1, 1), (68, .ireturn, 1)]
theorem D_Juries_isAtPeace (i : Nat) {pc len : Nat} {ins : Instr} (hi : tb_Juries_isAtPeace[i]? = some (pc, ins, len)) : decode M_Juries_isAtPeace.2.1 pc = .ok (ins, len) := dec_of (by decide +kernel) i hi
def f_Juries_isAtPeace_L42 : Nat → GS → Int → Option (Int × GS)
  | 0, _, _ => none
  | n + 1, G, x2 =>
    if 12 ≤ x2 then
      some (1, G)
    else
      (f_Juries_above G x2 11).bind fun q1 =>
      if q1 = (-1) then
        f_Juries_isAtPeace_L42 n G (wr (x2 + 1))
      else
        some (0, G)
theorem s_Juries_isAtPeace_L42 {X : XT} {r : Int × GS} : ∀ (n : Nat) {G : GS} {x2 : Int}, wr x2 = x2 → f_Juries_isAtPeace_L42 n G x2 = some r → J X true 10 0 0 M_Juries_isAtPeace (Rz r.1 r.2) NC 0 0 42 [(0, rf X 45), (2, vi x2)] [] G := by
  intro n
  induction n with
  | zero =>
    intro G x2 hx2 h
    exact none_some h
  | succ n ih =>
    intro G x2 hx2 h
    rw [f_Juries_isAtPeace_L42] at h
    refine j_iloadn (k := 1) (D_Juries_isAtPeace 27 rfl) rfl rfl ?_
    refine j_bipush (v := 12) (D_Juries_isAtPeace 28 rfl) rfl ?_
    refine j_ic_ge (tgt := 67) (D_Juries_isAtPeace 29 rfl) rfl (hx2) (wr_lit rfl) (fun c1 => ?_) (fun c1 => ?_)
    · replace h := ite_t h c1
      refine j_iconst (v := 1) (D_Juries_isAtPeace 40 rfl) rfl ?_
      exact j_zret (D_Juries_isAtPeace 41 rfl) rfl (wr_lit rfl) (nz_01 (by decide)) rfl rfl (leafZ h (wr_n (wr_lit rfl)) (by decide))
    · replace h := ite_f h c1
      refine j_aloadn (k := 0) (D_Juries_isAtPeace 30 rfl) rfl rfl ?_
      refine j_iloadn (k := 1) (D_Juries_isAtPeace 31 rfl) rfl rfl ?_
      refine j_bipush (v := 11) (D_Juries_isAtPeace 32 rfl) rfl ?_
      obtain ⟨q1, e1, h⟩ := Option.bind_eq_some_iff.mp h
      refine j_cVi (c_Juries_above (hx2) (wr_lit rfl) e1) rfl lk_Juries_58 mok_Juries_above kd_45 lc_45 rfl (by decide) rfl rfl (Nat.le_of_ble_eq_true rfl) (D_Juries_isAtPeace 33 rfl) (fun w1 => ?_)
      refine j_iconst (v := (-1)) (D_Juries_isAtPeace 34 rfl) rfl ?_
      refine j_ic_eq (tgt := 61) (D_Juries_isAtPeace 35 rfl) rfl (w1) (wr_lit rfl) (fun c2 => ?_) (fun c2 => ?_)
      · replace h := ite_t h c2
        refine j_iinc (k := 1) (L' := [(2, vi (wr (x2 + 1))), (0, rf X 45)]) (D_Juries_isAtPeace 38 rfl) rfl rfl (by decide) rfl ?_
        refine j_goto (tgt := 42) (D_Juries_isAtPeace 39 rfl) rfl ?_
        refine j_loc [1, 0] rfl ?_
        exact ih (wr_wr _) h
      · replace h := ite_f h c2
        refine j_iconst (v := 0) (D_Juries_isAtPeace 36 rfl) rfl ?_
        exact j_zret (D_Juries_isAtPeace 37 rfl) rfl (wr_lit rfl) (nz_01 (by decide)) rfl rfl (leafZ h (wr_n (wr_lit rfl)) (by decide))
def f_Juries_isAtPeace_L29 (k2 : GS → Int → Int → Option (Int × GS)) (G : GS) (x1 : Int) (x2 : Int) : Option (Int × GS) :=
  k2 G x1 (wr (x2 + 1))
theorem s_Juries_isAtPeace_L29 {X : XT} {r : Int × GS} {k2 : GS → Int → Int → Option (Int × GS)} (hk2 : ∀ {G : GS} {x1 : Int} {x2 : Int} , wr x1 = x1 → wr x2 = x2 → k2 G x1 x2 = some r → J X true 10 0 0 M_Juries_isAtPeace (Rz r.1 r.2) NC 0 0 2 [(0, rf X 45), (1, vi x1), (2, vi x2)] [] G) : ∀ {G : GS} {x1 : Int} {x2 : Int}, wr x1 = x1 → wr x2 = x2 → f_Juries_isAtPeace_L29 k2 G x1 x2 = some r → J X true 10 0 0 M_Juries_isAtPeace (Rz r.1 r.2) NC 0 0 29 [(0, rf X 45), (1, vi x1), (2, vi x2)] [] G := by
  intro G x1 x2 hx1 hx2 h
  unfold f_Juries_isAtPeace_L29 at h
  refine j_iinc (k := 2) (L' := [(2, vi (wr (x2 + 1))), (0, rf X 45), (1, vi x1)]) (D_Juries_isAtPeace 20 rfl) rfl rfl (by decide) rfl ?_
  refine j_goto (tgt := 2) (D_Juries_isAtPeace 21 rfl) rfl ?_
  refine j_loc [1, 2, 0] rfl ?_
  exact hk2 (hx1) (wr_wr _) h
def f_Juries_isAtPeace_L2 : Nat → GS → Int → Int → Option (Int × GS)
  | 0, _, _, _ => none
  | n + 1, G, x1, x2 =>
    if 10 ≤ x2 then
      (f_Juries_layHeld G x1).bind fun q1 =>
      f_Juries_isAtPeace_L42 FU q1 0
    else
      if bAnd x1 (bShl 1 x2) = 0 then
        f_Juries_isAtPeace_L29 (f_Juries_isAtPeace_L2 n) G x1 x2
      else
        gd (0 ≤ x2 ∧ x2 < 10) <|
        if bAnd (gi G 47 x2.toNat) x1 = 0 then
          f_Juries_isAtPeace_L29 (f_Juries_isAtPeace_L2 n) G x1 x2
        else
          some (0, G)
theorem s_Juries_isAtPeace_L2 {X : XT} {r : Int × GS} : ∀ (n : Nat) {G : GS} {x1 : Int} {x2 : Int}, wr x1 = x1 → wr x2 = x2 → f_Juries_isAtPeace_L2 n G x1 x2 = some r → J X true 10 0 0 M_Juries_isAtPeace (Rz r.1 r.2) NC 0 0 2 [(0, rf X 45), (1, vi x1), (2, vi x2)] [] G := by
  intro n
  induction n with
  | zero =>
    intro G x1 x2 hx1 hx2 h
    exact none_some h
  | succ n ih =>
    intro G x1 x2 hx1 hx2 h
    rw [f_Juries_isAtPeace_L2] at h
    refine j_iloadn (k := 2) (D_Juries_isAtPeace 2 rfl) rfl rfl ?_
    refine j_bipush (v := 10) (D_Juries_isAtPeace 3 rfl) rfl ?_
    refine j_ic_ge (tgt := 35) (D_Juries_isAtPeace 4 rfl) rfl (hx2) (wr_lit rfl) (fun c1 => ?_) (fun c1 => ?_)
    · replace h := ite_t h c1
      refine j_aloadn (k := 0) (D_Juries_isAtPeace 22 rfl) rfl rfl ?_
      refine j_iloadn (k := 1) (D_Juries_isAtPeace 23 rfl) rfl rfl ?_
      obtain ⟨q1, e1, h⟩ := Option.bind_eq_some_iff.mp h
      refine j_cVv (c_Juries_layHeld (hx1) e1) rfl lk_Juries_50 mok_Juries_layHeld kd_45 lc_45 rfl (by decide) rfl rfl (Nat.le_of_ble_eq_true rfl) (D_Juries_isAtPeace 24 rfl) ?_
      refine j_iconst (v := 0) (D_Juries_isAtPeace 25 rfl) rfl ?_
      refine j_istoren (L' := [(2, vi 0), (0, rf X 45), (1, vi x1)]) (D_Juries_isAtPeace 26 rfl) rfl (wr_lit rfl) (by decide) rfl ?_
      refine j_loc [1, 0] rfl ?_
      exact s_Juries_isAtPeace_L42 FU (wr_lit rfl) h
    · replace h := ite_f h c1
      refine j_iloadn (k := 1) (D_Juries_isAtPeace 5 rfl) rfl rfl ?_
      refine j_iconst (v := 1) (D_Juries_isAtPeace 6 rfl) rfl ?_
      refine j_iloadn (k := 2) (D_Juries_isAtPeace 7 rfl) rfl rfl ?_
      refine j_ishl (D_Juries_isAtPeace 8 rfl) ?_
      refine j_iand (D_Juries_isAtPeace 9 rfl) ?_
      refine j_if_eq (tgt := 29) (D_Juries_isAtPeace 10 rfl) rfl (wr_bAnd _ _) (fun c2 => ?_) (fun c2 => ?_)
      · replace h := ite_t h c2
        refine j_loc [0, 1, 2] rfl ?_
        exact s_Juries_isAtPeace_L29 ih (hx1) (hx2) h
      · replace h := ite_f h c2
        refine j_aloadn (k := 0) (D_Juries_isAtPeace 11 rfl) rfl rfl ?_
        refine j_getR rfl fa_Juries_17 kd_45 lc_45 (by decide) rfl fx_45_1 (by decide) (D_Juries_isAtPeace 12 rfl) ?_
        refine j_iloadn (k := 2) (D_Juries_isAtPeace 13 rfl) rfl rfl ?_
        have g1 := gd_c h
        replace h := gd_s h
        refine j_iald (NI := 10) (D_Juries_isAtPeace 14 rfl) kd_47 lc_47 (hx2) rfl g1.1 g1.2 ?_
        refine j_iloadn (k := 1) (D_Juries_isAtPeace 15 rfl) rfl rfl ?_
        refine j_iand (D_Juries_isAtPeace 16 rfl) ?_
        refine j_if_eq (tgt := 29) (D_Juries_isAtPeace 17 rfl) rfl (wr_bAnd _ _) (fun c3 => ?_) (fun c3 => ?_)
        · replace h := ite_t h c3
          refine j_loc [0, 1, 2] rfl ?_
          exact s_Juries_isAtPeace_L29 ih (hx1) (hx2) h
        · replace h := ite_f h c3
          refine j_iconst (v := 0) (D_Juries_isAtPeace 18 rfl) rfl ?_
          exact j_zret (D_Juries_isAtPeace 19 rfl) rfl (wr_lit rfl) (nz_01 (by decide)) rfl rfl (leafZ h (wr_n (wr_lit rfl)) (by decide))
def f_Juries_isAtPeace (G : GS) (a1 : Int) : Option (Int × GS) :=
  f_Juries_isAtPeace_L2 FU G a1 0
theorem c_Juries_isAtPeace {X : XT} {G : GS} {a1 : Int} {r : Int × GS} (ha1 : wr a1 = a1) (h : f_Juries_isAtPeace G a1 = some r) : Call X true 10 0 0 M_Juries_isAtPeace [rf X 45, vi a1] NC G (Rz r.1 r.2) := by
  refine Call_of_J cw_Juries_isAtPeace (by decide +kernel) (Nat.le_of_ble_eq_true rfl) ?_
  unfold f_Juries_isAtPeace at h
  show J X true 10 0 0 M_Juries_isAtPeace (Rz r.1 r.2) NC 0 0 0 [(0, rf X 45), (1, vi a1)] [] G
  refine j_iconst (v := 0) (D_Juries_isAtPeace 0 rfl) rfl ?_
  refine j_istoren (L' := [(2, vi 0), (0, rf X 45), (1, vi a1)]) (D_Juries_isAtPeace 1 rfl) rfl (wr_lit rfl) (by decide) rfl ?_
  refine j_loc [1, 2, 0] rfl ?_
  exact s_Juries_isAtPeace_L2 FU (ha1) (wr_lit rfl) h
abbrev M_Juries_weigh : MI := (⟨"InquestHall$Juries", "weigh", "()V"⟩, prog_3_method_5_code, 4, none)
theorem cw_Juries_weigh : Cond.code M_Juries_weigh.1 M_Juries_weigh.2.1 M_Juries_weigh.2.2.1 M_Juries_weigh.2.2.2 ∈ TS := mTS (List.mem_of_getElem? (i := 1263) (by decide +kernel)) (by decide +kernel)
theorem lk_Juries_33 : Cond.methodLink "InquestHall$Juries" 33 M_Juries_setAgainst.1 ∈ TS := mTS (List.mem_of_getElem? (i := 1264) (by decide +kernel)) (by decide +kernel)
theorem mok_Juries_setAgainst : MOK M_Juries_setAgainst 0 := ⟨mTS (List.mem_of_getElem? (i := 1266) (by decide +kernel)) (by decide +kernel), mTS (List.mem_of_getElem? (i := 55) (by decide +kernel)) (by decide +kernel), mTS (List.mem_of_getElem? (i := 137) (by decide +kernel)) (by decide +kernel), cw_Juries_setAgainst, ⟨by decide, by decide, by decide +kernel⟩, by decide +kernel, by decide⟩
theorem fa_Juries_36 : FA "InquestHall$Juries" 36 10 3 false .int := ⟨_, _, _, _, ok_Juries, by decide, mTS (List.mem_of_getElem? (i := 517) (by decide +kernel)) (by decide +kernel), rfl, rfl⟩
theorem lk_Juries_40 : Cond.methodLink "InquestHall$Juries" 40 M_Integer_bitCount.1 ∈ TS := mTS (List.mem_of_getElem? (i := 1272) (by decide +kernel)) (by decide +kernel)
theorem lk_Juries_46 : Cond.methodLink "InquestHall$Juries" 46 M_Juries_isAtPeace.1 ∈ TS := mTS (List.mem_of_getElem? (i := 1273) (by decide +kernel)) (by decide +kernel)
theorem mok_Juries_isAtPeace : MOK M_Juries_isAtPeace 1 := ⟨mTS (List.mem_of_getElem? (i := 1275) (by decide +kernel)) (by decide +kernel), mTS (List.mem_of_getElem? (i := 57) (by decide +kernel)) (by decide +kernel), mTS (List.mem_of_getElem? (i := 137) (by decide +kernel)) (by decide +kernel), cw_Juries_isAtPeace, ⟨by decide, by decide, by decide +kernel⟩, by decide +kernel, by decide⟩
def tb_Juries_weigh : List (Nat × Instr × Nat) := [(0, .aload_n 0, 1), (1, .getfield 29, 3), (4, .ifCond .eq 4, 3), (7, .return_, 1), (8, .aload_n 0, 1), (9, .invokevirtual 33, 3), (12, .sipush 1023, 3), (15, .istore_n 1, 1), (16, .aload_n 0, 1), (17, .iload_n 1, 1), (18, .putfield 36, 3), (21, .iconst 0, 1), (22, .istore_n 2, 1), (23, .iload_n 2, 1), (24, .iload_n 1, 1), (25, .if_icmp .ge 50, 3), (28, .iload_n 2, 1), (29, .invokestatic 40, 3), (32, .aload_n 0, 1), (33, .getfield 36, 3), (36, .invokestatic 40, 3), (39, .if_icmp .ge 7, 3), (42, .iconst 1, 1), (43, .goto 4, 3), (46, .iconst 0, 1), (47, .istore_n 3, 1), (48, .iload_n 3, 1), (49, .ifCond .eq 20, 3), (52, .aload_n 0, 1), (53, .iload_n 1, 1), (54, .iload_n 2, 1), (55, .iconst (-1), 1), (56, .ixor, 1), (57, .iand, 1), (58, .invokevirtual 46, 3), (61, .ifCond .eq 8, 3), (64, .aload_n 0, 1), (65, .iload_n 2, 1), (66, .putfield 36, 3), (69, .iinc 2 1, 3), (72, .goto (-49), 3), (75, .aload_n 0, 1), (76, .iload_n 1, 1), (77, .aload_n 0, 1), (78, .getfield 36, 3), (81, .iconst (-1), 1), (82, .ixor, 1), (83, .iand, 1), (84, .invokevirtual 50, 3), (87, .aload_n 0, 1), (88, .iconst 1, 1), (89, .putfield 29, 3), (92, .return_, 1)]
theorem D_Juries_weigh (i : Nat) {pc len : Nat} {ins : Instr} (hi : tb_Juries_weigh[i]? = some (pc, ins, len)) : decode M_Juries_weigh.2.1 pc = .ok (ins, len) := dec_of (by decide +kernel) i hi
def f_Juries_weigh_L69 (k23 : GS → Int → Int → Option (GS)) (G : GS) (x1 : Int) (x2 : Int) : Option (GS) :=
  k23 G x1 (wr (x2 + 1))
theorem s_Juries_weigh_L69 {X : XT} {r : GS} {k23 : GS → Int → Int → Option (GS)} (hk23 : ∀ {G : GS} {x1 : Int} {x2 : Int} , wr x1 = x1 → wr x2 = x2 → k23 G x1 x2 = some r → J X true 11 0 0 M_Juries_weigh (Rv r) NC 0 0 23 [(0, rf X 45), (1, vi x1), (2, vi x2)] [] G) : ∀ {G : GS} {x1 : Int} {x2 : Int}, wr x1 = x1 → wr x2 = x2 → f_Juries_weigh_L69 k23 G x1 x2 = some r → J X true 11 0 0 M_Juries_weigh (Rv r) NC 0 0 69 [(0, rf X 45), (1, vi x1), (2, vi x2)] [] G := by
  intro G x1 x2 hx1 hx2 h
  unfold f_Juries_weigh_L69 at h
  refine j_iinc (k := 2) (L' := [(2, vi (wr (x2 + 1))), (0, rf X 45), (1, vi x1)]) (D_Juries_weigh 39 rfl) rfl rfl (by decide) rfl ?_
  refine j_goto (tgt := 23) (D_Juries_weigh 40 rfl) rfl ?_
  refine j_loc [1, 2, 0] rfl ?_
  exact hk23 (hx1) (wr_wr _) h
def f_Juries_weigh_L47 (k23 : GS → Int → Int → Option (GS)) (G : GS) (x1 : Int) (x2 : Int) (s0 : Int) : Option (GS) :=
  if s0 = 0 then
    f_Juries_weigh_L69 k23 G x1 x2
  else
    (f_Juries_isAtPeace G (bAnd x1 (bXor x2 (-1)))).bind fun q1 =>
    if q1.1 = 0 then
      f_Juries_weigh_L69 k23 q1.2 x1 x2
    else
      wG (si q1.2 45 3 x2) fun G1 =>
      f_Juries_weigh_L69 k23 G1 x1 x2
theorem s_Juries_weigh_L47 {X : XT} {r : GS} {k23 : GS → Int → Int → Option (GS)} (hk23 : ∀ {G : GS} {x1 : Int} {x2 : Int} , wr x1 = x1 → wr x2 = x2 → k23 G x1 x2 = some r → J X true 11 0 0 M_Juries_weigh (Rv r) NC 0 0 23 [(0, rf X 45), (1, vi x1), (2, vi x2)] [] G) : ∀ {G : GS} {x1 : Int} {x2 : Int} {s0 : Int}, wr x1 = x1 → wr x2 = x2 → wr s0 = s0 → f_Juries_weigh_L47 k23 G x1 x2 s0 = some r → J X true 11 0 0 M_Juries_weigh (Rv r) NC 0 0 47 [(0, rf X 45), (1, vi x1), (2, vi x2)] [vi s0] G := by
  intro G x1 x2 s0 hx1 hx2 hs0 h
  unfold f_Juries_weigh_L47 at h
  refine j_istoren (L' := [(3, vi s0), (0, rf X 45), (1, vi x1), (2, vi x2)]) (D_Juries_weigh 25 rfl) rfl (hs0) (by decide) rfl ?_
  refine j_iloadn (k := 0) (D_Juries_weigh 26 rfl) rfl rfl ?_
  refine j_if_eq (tgt := 69) (D_Juries_weigh 27 rfl) rfl (hs0) (fun c1 => ?_) (fun c1 => ?_)
  · replace h := ite_t h c1
    refine j_loc [1, 2, 3] rfl ?_
    exact s_Juries_weigh_L69 hk23 (hx1) (hx2) h
  · replace h := ite_f h c1
    refine j_aloadn (k := 1) (D_Juries_weigh 28 rfl) rfl rfl ?_
    refine j_iloadn (k := 2) (D_Juries_weigh 29 rfl) rfl rfl ?_
    refine j_iloadn (k := 3) (D_Juries_weigh 30 rfl) rfl rfl ?_
    refine j_iconst (v := (-1)) (D_Juries_weigh 31 rfl) rfl ?_
    refine j_ixor (D_Juries_weigh 32 rfl) ?_
    refine j_iand (D_Juries_weigh 33 rfl) ?_
    obtain ⟨q1, e1, h⟩ := Option.bind_eq_some_iff.mp h
    refine j_cVz (c_Juries_isAtPeace (wr_bAnd _ _) e1) rfl lk_Juries_46 mok_Juries_isAtPeace kd_45 lc_45 rfl (by decide) rfl rfl (Nat.le_of_ble_eq_true rfl) (D_Juries_weigh 34 rfl) (fun w1 bw1 => ?_)
    refine j_if_eq (tgt := 69) (D_Juries_weigh 35 rfl) rfl (w1) (fun c2 => ?_) (fun c2 => ?_)
    · replace h := ite_t h c2
      refine j_loc [1, 2, 3] rfl ?_
      exact s_Juries_weigh_L69 hk23 (hx1) (hx2) h
    · replace h := ite_f h c2
      refine j_aloadn (k := 1) (D_Juries_weigh 36 rfl) rfl rfl ?_
      refine j_iloadn (k := 3) (D_Juries_weigh 37 rfl) rfl rfl ?_
      refine j_putI rfl fa_Juries_36 kd_45 lc_45 (by decide) rfl (D_Juries_weigh 38 rfl) ?_
      refine j_gen (fun G1 e2 => ?_)
      replace h := wG_at h e2
      refine j_loc [1, 2, 3] rfl ?_
      exact s_Juries_weigh_L69 hk23 (hx1) (hx2) h
def f_Juries_weigh_L23 : Nat → GS → Int → Int → Option (GS)
  | 0, _, _, _ => none
  | n + 1, G, x1, x2 =>
    if x1 ≤ x2 then
      (f_Juries_layHeld G (bAnd x1 (bXor (gi G 45 3) (-1)))).bind fun q1 =>
      wG (si q1 45 4 1) fun G1 =>
      some G1
    else
      (f_Integer_bitCount G x2).bind fun q2 =>
      (f_Integer_bitCount G (gi G 45 3)).bind fun q3 =>
      if q3 ≤ q2 then
        f_Juries_weigh_L47 (f_Juries_weigh_L23 n) G x1 x2 0
      else
        f_Juries_weigh_L47 (f_Juries_weigh_L23 n) G x1 x2 1
theorem s_Juries_weigh_L23 {X : XT} {r : GS} : ∀ (n : Nat) {G : GS} {x1 : Int} {x2 : Int}, wr x1 = x1 → wr x2 = x2 → f_Juries_weigh_L23 n G x1 x2 = some r → J X true 11 0 0 M_Juries_weigh (Rv r) NC 0 0 23 [(0, rf X 45), (1, vi x1), (2, vi x2)] [] G := by
  intro n
  induction n with
  | zero =>
    intro G x1 x2 hx1 hx2 h
    exact none_some h
  | succ n ih =>
    intro G x1 x2 hx1 hx2 h
    rw [f_Juries_weigh_L23] at h
    refine j_iloadn (k := 2) (D_Juries_weigh 13 rfl) rfl rfl ?_
    refine j_iloadn (k := 1) (D_Juries_weigh 14 rfl) rfl rfl ?_
    refine j_ic_ge (tgt := 75) (D_Juries_weigh 15 rfl) rfl (hx2) (hx1) (fun c1 => ?_) (fun c1 => ?_)
    · replace h := ite_t h c1
      refine j_aloadn (k := 0) (D_Juries_weigh 41 rfl) rfl rfl ?_
      refine j_iloadn (k := 1) (D_Juries_weigh 42 rfl) rfl rfl ?_
      refine j_aloadn (k := 0) (D_Juries_weigh 43 rfl) rfl rfl ?_
      refine j_getI rfl fa_Juries_36 kd_45 lc_45 (by decide) rfl (D_Juries_weigh 44 rfl) ?_
      refine j_iconst (v := (-1)) (D_Juries_weigh 45 rfl) rfl ?_
      refine j_ixor (D_Juries_weigh 46 rfl) ?_
      refine j_iand (D_Juries_weigh 47 rfl) ?_
      obtain ⟨q1, e1, h⟩ := Option.bind_eq_some_iff.mp h
      refine j_cVv (c_Juries_layHeld (wr_bAnd _ _) e1) rfl lk_Juries_50 mok_Juries_layHeld kd_45 lc_45 rfl (by decide) rfl rfl (Nat.le_of_ble_eq_true rfl) (D_Juries_weigh 48 rfl) ?_
      refine j_aloadn (k := 0) (D_Juries_weigh 49 rfl) rfl rfl ?_
      refine j_iconst (v := 1) (D_Juries_weigh 50 rfl) rfl ?_
      refine j_putZ rfl fa_Juries_29 kd_45 lc_45 (by decide) rfl (wr_lit rfl) (by decide) (D_Juries_weigh 51 rfl) ?_
      refine j_gen (fun G1 e2 => ?_)
      replace h := wG_at h e2
      exact j_vret (D_Juries_weigh 52 rfl) rfl rfl rfl (leafV h)
    · replace h := ite_f h c1
      refine j_iloadn (k := 2) (D_Juries_weigh 16 rfl) rfl rfl ?_
      obtain ⟨q2, e3, h⟩ := Option.bind_eq_some_iff.mp h
      refine j_cSi (c_Integer_bitCount (hx2) e3) rfl lk_Juries_40 sok_Integer_bitCount (by decide) rfl rfl (Nat.le_of_ble_eq_true rfl) (D_Juries_weigh 17 rfl) (fun w1 => ?_)
      refine j_aloadn (k := 0) (D_Juries_weigh 18 rfl) rfl rfl ?_
      refine j_getI rfl fa_Juries_36 kd_45 lc_45 (by decide) rfl (D_Juries_weigh 19 rfl) ?_
      obtain ⟨q3, e4, h⟩ := Option.bind_eq_some_iff.mp h
      refine j_cSi (c_Integer_bitCount (wr_gi _ _ _) e4) rfl lk_Juries_40 sok_Integer_bitCount (by decide) rfl rfl (Nat.le_of_ble_eq_true rfl) (D_Juries_weigh 20 rfl) (fun w2 => ?_)
      refine j_ic_ge (tgt := 46) (D_Juries_weigh 21 rfl) rfl (w1) (w2) (fun c2 => ?_) (fun c2 => ?_)
      · replace h := ite_t h c2
        refine j_iconst (v := 0) (D_Juries_weigh 24 rfl) rfl ?_
        refine j_loc [0, 1, 2] rfl ?_
        exact s_Juries_weigh_L47 ih (hx1) (hx2) (wr_lit rfl) h
      · replace h := ite_f h c2
        refine j_iconst (v := 1) (D_Juries_weigh 22 rfl) rfl ?_
        refine j_goto (tgt := 47) (D_Juries_weigh 23 rfl) rfl ?_
        refine j_loc [0, 1, 2] rfl ?_
        exact s_Juries_weigh_L47 ih (hx1) (hx2) (wr_lit rfl) h
def f_Juries_weigh (G : GS) : Option (GS) :=
  if gi G 45 4 = 0 then
    (f_Juries_setAgainst G).bind fun q1 =>
    wG (si q1 45 3 1023) fun G1 =>
    f_Juries_weigh_L23 FU G1 1023 0
  else
    some G
theorem c_Juries_weigh {X : XT} {G : GS} {r : GS} (h : f_Juries_weigh G = some r) : Call X true 11 0 0 M_Juries_weigh [rf X 45] NC G (Rv r) := by
  refine Call_of_J cw_Juries_weigh (by decide +kernel) (Nat.le_of_ble_eq_true rfl) ?_
  unfold f_Juries_weigh at h
  show J X true 11 0 0 M_Juries_weigh (Rv r) NC 0 0 0 [(0, rf X 45)] [] G
  refine j_aloadn (k := 0) (D_Juries_weigh 0 rfl) rfl rfl ?_
  refine j_getI rfl fa_Juries_29 kd_45 lc_45 (by decide) rfl (D_Juries_weigh 1 rfl) ?_
  refine j_if_eq (tgt := 8) (D_Juries_weigh 2 rfl) rfl (wr_gi _ _ _) (fun c1 => ?_) (fun c1 => ?_)
  · replace h := ite_t h c1
    refine j_aloadn (k := 0) (D_Juries_weigh 4 rfl) rfl rfl ?_
    obtain ⟨q1, e1, h⟩ := Option.bind_eq_some_iff.mp h
    refine j_cVv (c_Juries_setAgainst e1) rfl lk_Juries_33 mok_Juries_setAgainst kd_45 lc_45 rfl (by decide) rfl rfl (Nat.le_of_ble_eq_true rfl) (D_Juries_weigh 5 rfl) ?_
    refine j_sipush (v := 1023) (D_Juries_weigh 6 rfl) rfl ?_
    refine j_istoren (L' := [(1, vi 1023), (0, rf X 45)]) (D_Juries_weigh 7 rfl) rfl (wr_lit rfl) (by decide) rfl ?_
    refine j_aloadn (k := 1) (D_Juries_weigh 8 rfl) rfl rfl ?_
    refine j_iloadn (k := 0) (D_Juries_weigh 9 rfl) rfl rfl ?_
    refine j_putI rfl fa_Juries_36 kd_45 lc_45 (by decide) rfl (D_Juries_weigh 10 rfl) ?_
    refine j_gen (fun G1 e2 => ?_)
    replace h := wG_at h e2
    refine j_iconst (v := 0) (D_Juries_weigh 11 rfl) rfl ?_
    refine j_istoren (L' := [(2, vi 0), (1, vi 1023), (0, rf X 45)]) (D_Juries_weigh 12 rfl) rfl (wr_lit rfl) (by decide) rfl ?_
    refine j_loc [2, 1, 0] rfl ?_
    exact s_Juries_weigh_L23 FU (wr_lit rfl) (wr_lit rfl) h
  · replace h := ite_f h c1
    exact j_vret (D_Juries_weigh 3 rfl) rfl rfl rfl (leafV h)
abbrev M_Hall_quarrel : MI := (⟨"InquestHall", "quarrel", "(I)I"⟩, prog_1_method_33_code, 3, (some .int))
theorem cw_Hall_quarrel : Cond.code M_Hall_quarrel.1 M_Hall_quarrel.2.1 M_Hall_quarrel.2.2.1 M_Hall_quarrel.2.2.2 ∈ TS := mTS (List.mem_of_getElem? (i := 1259) (by decide +kernel)) (by decide +kernel)
theorem lk_Hall_337 : Cond.methodLink "InquestHall" 337 M_Juries_weigh.1 ∈ TS := mTS (List.mem_of_getElem? (i := 1260) (by decide +kernel)) (by decide +kernel)
theorem mok_Juries_weigh : MOK M_Juries_weigh 0 := ⟨mTS (List.mem_of_getElem? (i := 1261) (by decide +kernel)) (by decide +kernel), mTS (List.mem_of_getElem? (i := 1262) (by decide +kernel)) (by decide +kernel), mTS (List.mem_of_getElem? (i := 137) (by decide +kernel)) (by decide +kernel), cw_Juries_weigh, ⟨by decide, by decide, by decide +kernel⟩, by decide +kernel, by decide⟩
theorem fa_Hall_340 : FA "InquestHall" 340 10 3 false .int := ⟨_, _, _, _, ok_Juries, by decide, mTS (List.mem_of_getElem? (i := 518) (by decide +kernel)) (by decide +kernel), rfl, rfl⟩
theorem lk_Hall_343 : Cond.methodLink "InquestHall" 343 Lib.Math.min.name ∈ TS := mTS (List.mem_of_getElem? (i := 1285) (by decide +kernel)) (by decide +kernel)
def tb_Hall_quarrel : List (Nat × Instr × Nat) := [(0, .iload_n 1, 1), (1, .ifCond .lt 8, 3), (4, .iload_n 1, 1), (5, .iconst 2, 1), (6, .if_icmp .le 5, 3), (9, .iconst (-1), 1), (10, .ireturn, 1), (11, .aload_n 0, 1), (12, .getfield 81, 3), (15, .invokevirtual 337, 3), (18, .iload_n 1, 1), (19, .iconst 1, 1), (20, .if_icmp .ne 11, 3), (23, .aload_n 0, 1), (24, .getfield 81, 3), (27, .getfield 340, 3), (30, .ireturn, 1), (31, .aload_n 0, 1), (32, .getfield 81, 3), (35, .getfield 340, 3), (38, .invokestatic 198, 3), (41, .istore_n 2, 1), (42, .iload_n 1, 1), (43, .iconst 2, 1), (44, .if_icmp .ne 7, 3), (47, .iload_n 2, 1), (48, .goto 8, 3), (51, .iconst 1, 1), (52, .iload_n 2, 1), (53, .invokestatic 343, 3), (56, .ireturn, 1)]
theorem D_Hall_quarrel (i : Nat) {pc len : Nat} {ins : Instr} (hi : tb_Hall_quarrel[i]? = some (pc, ins, len)) : decode M_Hall_quarrel.2.1 pc = .ok (ins, len) := dec_of (by decide +kernel) i hi
def f_Hall_quarrel (G : GS) (a1 : Int) : Option (Int × GS) :=
  if a1 < 0 then
    some ((-1), G)
  else
    if a1 ≤ 2 then
      (f_Juries_weigh G).bind fun q1 =>
      if a1 = 1 then
        some (gi q1 45 3, q1)
      else
        (f_Integer_bitCount q1 (gi q1 45 3)).bind fun q2 =>
        if a1 = 2 then
          some (q2, q1)
        else
          some (min 1 q2, q1)
    else
      some ((-1), G)
theorem c_Hall_quarrel {X : XT} {G : GS} {a1 : Int} {r : Int × GS} (ha1 : wr a1 = a1) (h : f_Hall_quarrel G a1 = some r) : Call X true 12 0 0 M_Hall_quarrel [rf X 0, vi a1] NC G (Ri r.1 r.2) := by
  refine Call_of_J cw_Hall_quarrel (by decide +kernel) (Nat.le_of_ble_eq_true rfl) ?_
  unfold f_Hall_quarrel at h
  show J X true 12 0 0 M_Hall_quarrel (Ri r.1 r.2) NC 0 0 0 [(0, rf X 0), (1, vi a1)] [] G
  refine j_iloadn (k := 1) (D_Hall_quarrel 0 rfl) rfl rfl ?_
  refine j_if_lt (tgt := 9) (D_Hall_quarrel 1 rfl) rfl (ha1) (fun c1 => ?_) (fun c1 => ?_)
  · replace h := ite_t h c1
    refine j_iconst (v := (-1)) (D_Hall_quarrel 5 rfl) rfl ?_
    exact j_iret (D_Hall_quarrel 6 rfl) rfl (wr_lit rfl) rfl rfl (leafI h (wr_n (wr_lit rfl)))
  · replace h := ite_f h c1
    refine j_iloadn (k := 1) (D_Hall_quarrel 2 rfl) rfl rfl ?_
    refine j_iconst (v := 2) (D_Hall_quarrel 3 rfl) rfl ?_
    refine j_ic_le (tgt := 11) (D_Hall_quarrel 4 rfl) rfl (ha1) (wr_lit rfl) (fun c2 => ?_) (fun c2 => ?_)
    · replace h := ite_t h c2
      refine j_aloadn (k := 0) (D_Hall_quarrel 7 rfl) rfl rfl ?_
      refine j_getR rfl fa_Hall_81 kd_0 lc_0 (by decide) rfl fx_0_9 (by decide) (D_Hall_quarrel 8 rfl) ?_
      obtain ⟨q1, e1, h⟩ := Option.bind_eq_some_iff.mp h
      refine j_cVv (c_Juries_weigh e1) rfl lk_Hall_337 mok_Juries_weigh kd_45 lc_45 rfl (by decide) rfl rfl (Nat.le_of_ble_eq_true rfl) (D_Hall_quarrel 9 rfl) ?_
      refine j_iloadn (k := 1) (D_Hall_quarrel 10 rfl) rfl rfl ?_
      refine j_iconst (v := 1) (D_Hall_quarrel 11 rfl) rfl ?_
      refine j_ic_ne (tgt := 31) (D_Hall_quarrel 12 rfl) rfl (ha1) (wr_lit rfl) (fun c3 => ?_) (fun c3 => ?_)
      · replace h := ite_f h c3
        refine j_aloadn (k := 0) (D_Hall_quarrel 17 rfl) rfl rfl ?_
        refine j_getR rfl fa_Hall_81 kd_0 lc_0 (by decide) rfl fx_0_9 (by decide) (D_Hall_quarrel 18 rfl) ?_
        refine j_getI rfl fa_Hall_340 kd_45 lc_45 (by decide) rfl (D_Hall_quarrel 19 rfl) ?_
        obtain ⟨q2, e2, h⟩ := Option.bind_eq_some_iff.mp h
        refine j_cSi (c_Integer_bitCount (wr_gi _ _ _) e2) rfl lk_Hall_198 sok_Integer_bitCount (by decide) rfl rfl (Nat.le_of_ble_eq_true rfl) (D_Hall_quarrel 20 rfl) (fun w1 => ?_)
        refine j_istoren (L' := [(2, vi q2), (0, rf X 0), (1, vi a1)]) (D_Hall_quarrel 21 rfl) rfl (w1) (by decide) rfl ?_
        refine j_iloadn (k := 2) (D_Hall_quarrel 22 rfl) rfl rfl ?_
        refine j_iconst (v := 2) (D_Hall_quarrel 23 rfl) rfl ?_
        refine j_ic_ne (tgt := 51) (D_Hall_quarrel 24 rfl) rfl (ha1) (wr_lit rfl) (fun c4 => ?_) (fun c4 => ?_)
        · replace h := ite_f h c4
          refine j_iconst (v := 1) (D_Hall_quarrel 27 rfl) rfl ?_
          refine j_iloadn (k := 0) (D_Hall_quarrel 28 rfl) rfl rfl ?_
          refine j_mmin (wr_lit rfl) (w1) rfl lk_Hall_343 (by decide) (Nat.le_of_ble_eq_true rfl) (D_Hall_quarrel 29 rfl) ?_
          exact j_iret (D_Hall_quarrel 30 rfl) rfl (wr_min (wr_n (wr_lit rfl)) (wr_n (w1))) rfl rfl (leafI h (wr_n (wr_min (wr_n (wr_lit rfl)) (wr_n (w1)))))
        · replace h := ite_t h c4
          refine j_iloadn (k := 0) (D_Hall_quarrel 25 rfl) rfl rfl ?_
          refine j_goto (tgt := 56) (D_Hall_quarrel 26 rfl) rfl ?_
          exact j_iret (D_Hall_quarrel 30 rfl) rfl (w1) rfl rfl (leafI h (wr_n (w1)))
      · replace h := ite_t h c3
        refine j_aloadn (k := 0) (D_Hall_quarrel 13 rfl) rfl rfl ?_
        refine j_getR rfl fa_Hall_81 kd_0 lc_0 (by decide) rfl fx_0_9 (by decide) (D_Hall_quarrel 14 rfl) ?_
        refine j_getI rfl fa_Hall_340 kd_45 lc_45 (by decide) rfl (D_Hall_quarrel 15 rfl) ?_
        exact j_iret (D_Hall_quarrel 16 rfl) rfl (wr_gi _ _ _) rfl rfl (leafI h (wr_n (wr_gi _ _ _)))
    · replace h := ite_f h c2
      refine j_iconst (v := (-1)) (D_Hall_quarrel 5 rfl) rfl ?_
      exact j_iret (D_Hall_quarrel 6 rfl) rfl (wr_lit rfl) rfl rfl (leafI h (wr_n (wr_lit rfl)))
abbrev M_Model_isQuarrel : MI := (⟨"InquestHallModel", "isQuarrel", "(I)Z"⟩, prog_14_method_100_code, 5, (some .boolean))
theorem cw_Model_isQuarrel : Cond.code M_Model_isQuarrel.1 M_Model_isQuarrel.2.1 M_Model_isQuarrel.2.2.1 M_Model_isQuarrel.2.2.2 ∈ TS := mTS (List.mem_of_getElem? (i := 1996) (by decide +kernel)) (by decide +kernel)
theorem fa_Model_178 : FA "InquestHallModel" 178 12 84 true (.array .int) := ⟨_, _, _, _, ok_Model, by decide, mTS (List.mem_of_getElem? (i := 1385) (by decide +kernel)) (by decide +kernel), rfl, rfl⟩
theorem fx_81_84 {G : GS} (w : WF true NC G) : G.2.2 81 84 = 136 := w.2 rfl (81, 84, 136) (by decide)
theorem kd_136 : kd 136 = (0, 12) := rfl
theorem lc_136 : 136 < NC := by decide
def tb_Model_isQuarrel : List (Nat × Instr × Nat) := [(0, .iconst 0, 1), (1, .istore_n 2, 1), (2, .iload_n 2, 1), (3, .bipush 12, 2), (5, .if_icmp .ge 17, 3), (8, .aload_n 0, 1), (9, .getfield 178, 3), (12, .iload_n 2, 1), (13, .bipush (-2), 2), (15, .iastore, 1), (16, .iinc 2 1, 3), (19, .goto (-17), 3), (22, .iconst 0, 1), (23, .istore_n 2, 1), (24, .iload_n 2, 1), (25, .bipush 10, 2), (27, .if_icmp .ge 92, 3), (30, .iload_n 1, 1), (31, .iload_n 2, 1), (32, .ishr, 1), (33, .iconst 1, 1), (34, .iand, 1), (35, .iconst 1, 1), (36, .if_icmp .ne 6, 3), (39, .goto 74, 3), (42, .iconst 0, 1), (43, .istore_n 3, 1), (44, .iload_n 3, 1), (45, .aload_n 0, 1), (46, .getfield 212, 3), (49, .if_icmp .ge 64, 3), (52, .aload_n 0, 1), (53, .getfield 175, 3), (56, .bipush 12, 2), (58, .iload_n 2, 1), (59, .imul, 1), (60, .iload_n 3, 1), (61, .iadd, 1), (62, .iaload, 1), (63, .istore 4, 2), (65, .iload 4, 2), (67, .bipush (-2), 2), (69, .if_icmp .ne 6, 3), (72, .goto 35, 3), (75, .aload_n 0, 1), (76, .getfield 178, 3), (79, .iload_n 3, 1), (80, .iaload, 1), (81, .bipush (-2), 2), (83, .if_icmp .eq 16, 3), (86, .aload_n 0, 1), (87, .getfield 178, 3), (90, .iload_n 3, 1), (91, .iaload, 1), (92, .iload 4, 2), (94, .if_icmp .eq 5, 3), (97, .iconst 1, 1), (98, .ireturn, 1), (99, .aload_n 0, 1), (100, .getfield 178, 3), (103, .iload_n 3, 1), (104, .iload 4, 2), (106, .iastore, 1), (107, .iinc 3 1, 3), (110, .goto (-66), 3), (113, .iinc 2 1, 3), (116, .goto (-92), 3), (119, .iconst 0, 1), (120, .istore_n 2, 1), (121, .iload_n 2, 1), (122, .aload_n 0, 1), (123, .getfield 212, 3), (126, .if_icmp .ge 49, 3), (129, .aload_n 0, 1), (130, .getfield 178, 3), (133, .iload_n 2, 1), (134, .iaload, 1), (135, .istore_n 3, 1), (136, .iconst 0, 1), (137, .istore 4, 2), (139, .iload 4, 2), (141, .bipush 12, 2), (143, .if_icmp .ge 20, 3), (146, .iload_n 3, 1), (147, .ifCond .lt 16, 3), (150, .aload_n 0, 1), (151, .getfield 178, 3), (154, .iload_n 3, 1), (155, .iaload, 1), (156, .istore_n 3, 1), (157, .iinc 4 1, 3), (160, .goto (-21), 3), (163, .iload_n 3, 1), (164, .ifCond .lt 5, 3), (167, .iconst 1, 1), (168, .ireturn, 1), (169, .iinc 2 1, 3), (172, .goto (-51), 3), (175, .iconst 0, 1), (176, .ireturn, 1)]
theorem D_Model_isQuarrel (i : Nat) {pc len : Nat} {ins : Instr} (hi : tb_Model_isQuarrel[i]? = some (pc, ins, len)) : decode M_Model_isQuarrel.2.1 pc = .ok (ins, len) := dec_of (by decide +kernel) i hi
def f_Model_isQuarrel_L163 (k121 : GS → Int → Option (Int × GS)) (G : GS) (x2 : Int) (x3 : Int) : Option (Int × GS) :=
  if x3 < 0 then
    k121 G (wr (x2 + 1))
  else
    some (1, G)
theorem s_Model_isQuarrel_L163 {X : XT} {r : Int × GS} {k121 : GS → Int → Option (Int × GS)} (hk121 : ∀ {G : GS} {x2 : Int} , wr x2 = x2 → k121 G x2 = some r → J X true 6 0 0 M_Model_isQuarrel (Rz r.1 r.2) NC 0 0 121 [(0, rf X 81), (2, vi x2)] [] G) : ∀ {G : GS} {x2 : Int} {x3 : Int}, wr x2 = x2 → wr x3 = x3 → f_Model_isQuarrel_L163 k121 G x2 x3 = some r → J X true 6 0 0 M_Model_isQuarrel (Rz r.1 r.2) NC 0 0 163 [(0, rf X 81), (2, vi x2), (3, vi x3)] [] G := by
  intro G x2 x3 hx2 hx3 h
  unfold f_Model_isQuarrel_L163 at h
  refine j_iloadn (k := 2) (D_Model_isQuarrel 92 rfl) rfl rfl ?_
  refine j_if_lt (tgt := 169) (D_Model_isQuarrel 93 rfl) rfl (hx3) (fun c1 => ?_) (fun c1 => ?_)
  · replace h := ite_t h c1
    refine j_iinc (k := 1) (L' := [(2, vi (wr (x2 + 1))), (0, rf X 81), (3, vi x3)]) (D_Model_isQuarrel 96 rfl) rfl rfl (by decide) rfl ?_
    refine j_goto (tgt := 121) (D_Model_isQuarrel 97 rfl) rfl ?_
    refine j_loc [1, 0] rfl ?_
    exact hk121 (wr_wr _) h
  · replace h := ite_f h c1
    refine j_iconst (v := 1) (D_Model_isQuarrel 94 rfl) rfl ?_
    exact j_zret (D_Model_isQuarrel 95 rfl) rfl (wr_lit rfl) (nz_01 (by decide)) rfl rfl (leafZ h (wr_n (wr_lit rfl)) (by decide))
def f_Model_isQuarrel_L139 (k121 : GS → Int → Option (Int × GS)) : Nat → GS → Int → Int → Int → Option (Int × GS)
  | 0, _, _, _, _ => none
  | n + 1, G, x2, x3, x4 =>
    if 12 ≤ x4 then
      f_Model_isQuarrel_L163 k121 G x2 x3
    else
      if x3 < 0 then
        f_Model_isQuarrel_L163 k121 G x2 x3
      else
        gd (0 ≤ x3 ∧ x3 < 12) <|
        f_Model_isQuarrel_L139 k121 n G x2 (gi G 136 x3.toNat) (wr (x4 + 1))
theorem s_Model_isQuarrel_L139 {X : XT} {r : Int × GS} {k121 : GS → Int → Option (Int × GS)} (hk121 : ∀ {G : GS} {x2 : Int} , wr x2 = x2 → k121 G x2 = some r → J X true 6 0 0 M_Model_isQuarrel (Rz r.1 r.2) NC 0 0 121 [(0, rf X 81), (2, vi x2)] [] G) : ∀ (n : Nat) {G : GS} {x2 : Int} {x3 : Int} {x4 : Int}, wr x2 = x2 → wr x3 = x3 → wr x4 = x4 → f_Model_isQuarrel_L139 k121 n G x2 x3 x4 = some r → J X true 6 0 0 M_Model_isQuarrel (Rz r.1 r.2) NC 0 0 139 [(0, rf X 81), (2, vi x2), (3, vi x3), (4, vi x4)] [] G := by
  intro n
  induction n with
  | zero =>
    intro G x2 x3 x4 hx2 hx3 hx4 h
    exact none_some h
  | succ n ih =>
    intro G x2 x3 x4 hx2 hx3 hx4 h
    rw [f_Model_isQuarrel_L139] at h
    refine j_iload (k := 3) (D_Model_isQuarrel 80 rfl) rfl ?_
    refine j_bipush (v := 12) (D_Model_isQuarrel 81 rfl) rfl ?_
    refine j_ic_ge (tgt := 163) (D_Model_isQuarrel 82 rfl) rfl (hx4) (wr_lit rfl) (fun c1 => ?_) (fun c1 => ?_)
    · replace h := ite_t h c1
      refine j_loc [0, 1, 2] rfl ?_
      exact s_Model_isQuarrel_L163 hk121 (hx2) (hx3) h
    · replace h := ite_f h c1
      refine j_iloadn (k := 2) (D_Model_isQuarrel 83 rfl) rfl rfl ?_
      refine j_if_lt (tgt := 163) (D_Model_isQuarrel 84 rfl) rfl (hx3) (fun c2 => ?_) (fun c2 => ?_)
      · replace h := ite_t h c2
        refine j_loc [0, 1, 2] rfl ?_
        exact s_Model_isQuarrel_L163 hk121 (hx2) (hx3) h
      · replace h := ite_f h c2
        refine j_aloadn (k := 0) (D_Model_isQuarrel 85 rfl) rfl rfl ?_
        refine j_getR rfl fa_Model_178 kd_81 lc_81 (by decide) rfl fx_81_84 (by decide) (D_Model_isQuarrel 86 rfl) ?_
        refine j_iloadn (k := 2) (D_Model_isQuarrel 87 rfl) rfl rfl ?_
        have g1 := gd_c h
        replace h := gd_s h
        refine j_iald (NI := 12) (D_Model_isQuarrel 88 rfl) kd_136 lc_136 (hx3) rfl g1.1 g1.2 ?_
        refine j_istoren (L' := [(3, vi (gi G 136 x3.toNat)), (0, rf X 81), (2, vi x2), (4, vi x4)]) (D_Model_isQuarrel 89 rfl) rfl (wr_gi _ _ _) (by decide) rfl ?_
        refine j_iinc (k := 3) (L' := [(4, vi (wr (x4 + 1))), (3, vi (gi G 136 x3.toNat)), (0, rf X 81), (2, vi x2)]) (D_Model_isQuarrel 90 rfl) rfl rfl (by decide) rfl ?_
        refine j_goto (tgt := 139) (D_Model_isQuarrel 91 rfl) rfl ?_
        refine j_loc [2, 3, 1, 0] rfl ?_
        exact ih (hx2) (wr_gi _ _ _) (wr_wr _) h
def f_Model_isQuarrel_L121 : Nat → GS → Int → Option (Int × GS)
  | 0, _, _ => none
  | n + 1, G, x2 =>
    if gi G 81 10 ≤ x2 then
      some (0, G)
    else
      gd (0 ≤ x2 ∧ x2 < 12) <|
      f_Model_isQuarrel_L139 (f_Model_isQuarrel_L121 n) FU G x2 (gi G 136 x2.toNat) 0
theorem s_Model_isQuarrel_L121 {X : XT} {r : Int × GS} : ∀ (n : Nat) {G : GS} {x2 : Int}, wr x2 = x2 → f_Model_isQuarrel_L121 n G x2 = some r → J X true 6 0 0 M_Model_isQuarrel (Rz r.1 r.2) NC 0 0 121 [(0, rf X 81), (2, vi x2)] [] G := by
  intro n
  induction n with
  | zero =>
    intro G x2 hx2 h
    exact none_some h
  | succ n ih =>
    intro G x2 hx2 h
    rw [f_Model_isQuarrel_L121] at h
    refine j_iloadn (k := 1) (D_Model_isQuarrel 69 rfl) rfl rfl ?_
    refine j_aloadn (k := 0) (D_Model_isQuarrel 70 rfl) rfl rfl ?_
    refine j_getI rfl fa_Model_212 kd_81 lc_81 (by decide) rfl (D_Model_isQuarrel 71 rfl) ?_
    refine j_ic_ge (tgt := 175) (D_Model_isQuarrel 72 rfl) rfl (hx2) (wr_gi _ _ _) (fun c1 => ?_) (fun c1 => ?_)
    · replace h := ite_t h c1
      refine j_iconst (v := 0) (D_Model_isQuarrel 98 rfl) rfl ?_
      exact j_zret (D_Model_isQuarrel 99 rfl) rfl (wr_lit rfl) (nz_01 (by decide)) rfl rfl (leafZ h (wr_n (wr_lit rfl)) (by decide))
    · replace h := ite_f h c1
      refine j_aloadn (k := 0) (D_Model_isQuarrel 73 rfl) rfl rfl ?_
      refine j_getR rfl fa_Model_178 kd_81 lc_81 (by decide) rfl fx_81_84 (by decide) (D_Model_isQuarrel 74 rfl) ?_
      refine j_iloadn (k := 1) (D_Model_isQuarrel 75 rfl) rfl rfl ?_
      have g1 := gd_c h
      replace h := gd_s h
      refine j_iald (NI := 12) (D_Model_isQuarrel 76 rfl) kd_136 lc_136 (hx2) rfl g1.1 g1.2 ?_
      refine j_istoren (L' := [(3, vi (gi G 136 x2.toNat)), (0, rf X 81), (2, vi x2)]) (D_Model_isQuarrel 77 rfl) rfl (wr_gi _ _ _) (by decide) rfl ?_
      refine j_iconst (v := 0) (D_Model_isQuarrel 78 rfl) rfl ?_
      refine j_istore (L' := [(4, vi 0), (3, vi (gi G 136 x2.toNat)), (0, rf X 81), (2, vi x2)]) (D_Model_isQuarrel 79 rfl) (wr_lit rfl) (by decide) rfl ?_
      refine j_loc [2, 3, 1, 0] rfl ?_
      exact s_Model_isQuarrel_L139 ih FU (hx2) (wr_gi _ _ _) (wr_lit rfl) h
def f_Model_isQuarrel_L113 (k24 : GS → Int → Int → Option (Int × GS)) (G : GS) (x1 : Int) (x2 : Int) : Option (Int × GS) :=
  k24 G x1 (wr (x2 + 1))
theorem s_Model_isQuarrel_L113 {X : XT} {r : Int × GS} {k24 : GS → Int → Int → Option (Int × GS)} (hk24 : ∀ {G : GS} {x1 : Int} {x2 : Int} , wr x1 = x1 → wr x2 = x2 → k24 G x1 x2 = some r → J X true 6 0 0 M_Model_isQuarrel (Rz r.1 r.2) NC 0 0 24 [(0, rf X 81), (1, vi x1), (2, vi x2)] [] G) : ∀ {G : GS} {x1 : Int} {x2 : Int}, wr x1 = x1 → wr x2 = x2 → f_Model_isQuarrel_L113 k24 G x1 x2 = some r → J X true 6 0 0 M_Model_isQuarrel (Rz r.1 r.2) NC 0 0 113 [(0, rf X 81), (1, vi x1), (2, vi x2)] [] G := by
  intro G x1 x2 hx1 hx2 h
  unfold f_Model_isQuarrel_L113 at h
  refine j_iinc (k := 2) (L' := [(2, vi (wr (x2 + 1))), (0, rf X 81), (1, vi x1)]) (D_Model_isQuarrel 65 rfl) rfl rfl (by decide) rfl ?_
  refine j_goto (tgt := 24) (D_Model_isQuarrel 66 rfl) rfl ?_
  refine j_loc [1, 2, 0] rfl ?_
  exact hk24 (hx1) (wr_wr _) h
def f_Model_isQuarrel_L107 (k24 : GS → Int → Int → Option (Int × GS)) (k44 : GS → Int → Int → Int → Option (Int × GS)) (G : GS) (x1 : Int) (x2 : Int) (x3 : Int) : Option (Int × GS) :=
  k44 G x1 x2 (wr (x3 + 1))
theorem s_Model_isQuarrel_L107 {X : XT} {r : Int × GS} {k24 : GS → Int → Int → Option (Int × GS)} (hk24 : ∀ {G : GS} {x1 : Int} {x2 : Int} , wr x1 = x1 → wr x2 = x2 → k24 G x1 x2 = some r → J X true 6 0 0 M_Model_isQuarrel (Rz r.1 r.2) NC 0 0 24 [(0, rf X 81), (1, vi x1), (2, vi x2)] [] G) {k44 : GS → Int → Int → Int → Option (Int × GS)} (hk44 : ∀ {G : GS} {x1 : Int} {x2 : Int} {x3 : Int} , wr x1 = x1 → wr x2 = x2 → wr x3 = x3 → k44 G x1 x2 x3 = some r → J X true 6 0 0 M_Model_isQuarrel (Rz r.1 r.2) NC 0 0 44 [(0, rf X 81), (1, vi x1), (2, vi x2), (3, vi x3)] [] G) : ∀ {G : GS} {x1 : Int} {x2 : Int} {x3 : Int}, wr x1 = x1 → wr x2 = x2 → wr x3 = x3 → f_Model_isQuarrel_L107 k24 k44 G x1 x2 x3 = some r → J X true 6 0 0 M_Model_isQuarrel (Rz r.1 r.2) NC 0 0 107 [(0, rf X 81), (1, vi x1), (2, vi x2), (3, vi x3)] [] G := by
  intro G x1 x2 x3 hx1 hx2 hx3 h
  unfold f_Model_isQuarrel_L107 at h
  refine j_iinc (k := 3) (L' := [(3, vi (wr (x3 + 1))), (0, rf X 81), (1, vi x1), (2, vi x2)]) (D_Model_isQuarrel 63 rfl) rfl rfl (by decide) rfl ?_
  refine j_goto (tgt := 44) (D_Model_isQuarrel 64 rfl) rfl ?_
  refine j_loc [1, 2, 3, 0] rfl ?_
  exact hk44 (hx1) (hx2) (wr_wr _) h
def f_Model_isQuarrel_L99 (k24 : GS → Int → Int → Option (Int × GS)) (k44 : GS → Int → Int → Int → Option (Int × GS)) (G : GS) (x1 : Int) (x2 : Int) (x3 : Int) (x4 : Int) : Option (Int × GS) :=
  gd (0 ≤ x3 ∧ x3 < 12) <|
  wG (si G 136 x3.toNat x4) fun G1 =>
  f_Model_isQuarrel_L107 k24 k44 G1 x1 x2 x3
theorem s_Model_isQuarrel_L99 {X : XT} {r : Int × GS} {k24 : GS → Int → Int → Option (Int × GS)} (hk24 : ∀ {G : GS} {x1 : Int} {x2 : Int} , wr x1 = x1 → wr x2 = x2 → k24 G x1 x2 = some r → J X true 6 0 0 M_Model_isQuarrel (Rz r.1 r.2) NC 0 0 24 [(0, rf X 81), (1, vi x1), (2, vi x2)] [] G) {k44 : GS → Int → Int → Int → Option (Int × GS)} (hk44 : ∀ {G : GS} {x1 : Int} {x2 : Int} {x3 : Int} , wr x1 = x1 → wr x2 = x2 → wr x3 = x3 → k44 G x1 x2 x3 = some r → J X true 6 0 0 M_Model_isQuarrel (Rz r.1 r.2) NC 0 0 44 [(0, rf X 81), (1, vi x1), (2, vi x2), (3, vi x3)] [] G) : ∀ {G : GS} {x1 : Int} {x2 : Int} {x3 : Int} {x4 : Int}, wr x1 = x1 → wr x2 = x2 → wr x3 = x3 → wr x4 = x4 → f_Model_isQuarrel_L99 k24 k44 G x1 x2 x3 x4 = some r → J X true 6 0 0 M_Model_isQuarrel (Rz r.1 r.2) NC 0 0 99 [(0, rf X 81), (1, vi x1), (2, vi x2), (3, vi x3), (4, vi x4)] [] G := by
  intro G x1 x2 x3 x4 hx1 hx2 hx3 hx4 h
  unfold f_Model_isQuarrel_L99 at h
  refine j_aloadn (k := 0) (D_Model_isQuarrel 58 rfl) rfl rfl ?_
  refine j_getR rfl fa_Model_178 kd_81 lc_81 (by decide) rfl fx_81_84 (by decide) (D_Model_isQuarrel 59 rfl) ?_
  refine j_iloadn (k := 3) (D_Model_isQuarrel 60 rfl) rfl rfl ?_
  refine j_iload (k := 4) (D_Model_isQuarrel 61 rfl) rfl ?_
  have g1 := gd_c h
  replace h := gd_s h
  refine j_iast (NI := 12) (D_Model_isQuarrel 62 rfl) kd_136 lc_136 (hx3) rfl g1.1 g1.2 ?_
  refine j_gen (fun G1 e1 => ?_)
  replace h := wG_at h e1
  refine j_loc [0, 1, 2, 3] rfl ?_
  exact s_Model_isQuarrel_L107 hk24 hk44 (hx1) (hx2) (hx3) h
def f_Model_isQuarrel_L44 (k24 : GS → Int → Int → Option (Int × GS)) : Nat → GS → Int → Int → Int → Option (Int × GS)
  | 0, _, _, _, _ => none
  | n + 1, G, x1, x2, x3 =>
    if gi G 81 10 ≤ x3 then
      f_Model_isQuarrel_L113 k24 G x1 x2
    else
      gd (0 ≤ wr ((12 * x2) + x3) ∧ wr ((12 * x2) + x3) < 120) <|
      if gi G 135 (wr ((12 * x2) + x3)).toNat = (-2) then
        f_Model_isQuarrel_L107 k24 (f_Model_isQuarrel_L44 k24 n) G x1 x2 x3
      else
        gd (0 ≤ x3 ∧ x3 < 12) <|
        if gi G 136 x3.toNat = (-2) then
          f_Model_isQuarrel_L99 k24 (f_Model_isQuarrel_L44 k24 n) G x1 x2 x3 (gi G 135 (wr ((12 * x2) + x3)).toNat)
        else
          gd (0 ≤ x3 ∧ x3 < 12) <|
          if gi G 136 x3.toNat = gi G 135 (wr ((12 * x2) + x3)).toNat then
            f_Model_isQuarrel_L99 k24 (f_Model_isQuarrel_L44 k24 n) G x1 x2 x3 (gi G 135 (wr ((12 * x2) + x3)).toNat)
          else
            some (1, G)
theorem s_Model_isQuarrel_L44 {X : XT} {r : Int × GS} {k24 : GS → Int → Int → Option (Int × GS)} (hk24 : ∀ {G : GS} {x1 : Int} {x2 : Int} , wr x1 = x1 → wr x2 = x2 → k24 G x1 x2 = some r → J X true 6 0 0 M_Model_isQuarrel (Rz r.1 r.2) NC 0 0 24 [(0, rf X 81), (1, vi x1), (2, vi x2)] [] G) : ∀ (n : Nat) {G : GS} {x1 : Int} {x2 : Int} {x3 : Int}, wr x1 = x1 → wr x2 = x2 → wr x3 = x3 → f_Model_isQuarrel_L44 k24 n G x1 x2 x3 = some r → J X true 6 0 0 M_Model_isQuarrel (Rz r.1 r.2) NC 0 0 44 [(0, rf X 81), (1, vi x1), (2, vi x2), (3, vi x3)] [] G := by
  intro n
  induction n with
  | zero =>
    intro G x1 x2 x3 hx1 hx2 hx3 h
    exact none_some h
  | succ n ih =>
    intro G x1 x2 x3 hx1 hx2 hx3 h
    rw [f_Model_isQuarrel_L44] at h
    refine j_iloadn (k := 3) (D_Model_isQuarrel 27 rfl) rfl rfl ?_
    refine j_aloadn (k := 0) (D_Model_isQuarrel 28 rfl) rfl rfl ?_
    refine j_getI rfl fa_Model_212 kd_81 lc_81 (by decide) rfl (D_Model_isQuarrel 29 rfl) ?_
    refine j_ic_ge (tgt := 113) (D_Model_isQuarrel 30 rfl) rfl (hx3) (wr_gi _ _ _) (fun c1 => ?_) (fun c1 => ?_)
    · replace h := ite_t h c1
      refine j_loc [0, 1, 2] rfl ?_
      exact s_Model_isQuarrel_L113 hk24 (hx1) (hx2) h
    · replace h := ite_f h c1
      refine j_aloadn (k := 0) (D_Model_isQuarrel 31 rfl) rfl rfl ?_
      refine j_getR rfl fa_Model_175 kd_81 lc_81 (by decide) rfl fx_81_83 (by decide) (D_Model_isQuarrel 32 rfl) ?_
      refine j_bipush (v := 12) (D_Model_isQuarrel 33 rfl) rfl ?_
      refine j_iloadn (k := 2) (D_Model_isQuarrel 34 rfl) rfl rfl ?_
      refine j_imul (D_Model_isQuarrel 35 rfl) ?_
      refine j_iloadn (k := 3) (D_Model_isQuarrel 36 rfl) rfl rfl ?_
      refine j_iadd (D_Model_isQuarrel 37 rfl) ?_
      have g1 := gd_c h
      replace h := gd_s h
      refine j_iald (NI := 120) (D_Model_isQuarrel 38 rfl) kd_135 lc_135 (rfl) rfl g1.1 g1.2 ?_
      refine j_istore (L' := [(4, vi (gi G 135 (wr ((12 * x2) + x3)).toNat)), (0, rf X 81), (1, vi x1), (2, vi x2), (3, vi x3)]) (D_Model_isQuarrel 39 rfl) (wr_gi _ _ _) (by decide) rfl ?_
      refine j_iload (k := 0) (D_Model_isQuarrel 40 rfl) rfl ?_
      refine j_bipush (v := (-2)) (D_Model_isQuarrel 41 rfl) rfl ?_
      refine j_ic_ne (tgt := 75) (D_Model_isQuarrel 42 rfl) rfl (wr_gi _ _ _) (wr_lit rfl) (fun c2 => ?_) (fun c2 => ?_)
      · replace h := ite_f h c2
        refine j_aloadn (k := 1) (D_Model_isQuarrel 44 rfl) rfl rfl ?_
        refine j_getR rfl fa_Model_178 kd_81 lc_81 (by decide) rfl fx_81_84 (by decide) (D_Model_isQuarrel 45 rfl) ?_
        refine j_iloadn (k := 4) (D_Model_isQuarrel 46 rfl) rfl rfl ?_
        have g2 := gd_c h
        replace h := gd_s h
        refine j_iald (NI := 12) (D_Model_isQuarrel 47 rfl) kd_136 lc_136 (hx3) rfl g2.1 g2.2 ?_
        refine j_bipush (v := (-2)) (D_Model_isQuarrel 48 rfl) rfl ?_
        refine j_ic_eq (tgt := 99) (D_Model_isQuarrel 49 rfl) rfl (wr_gi _ _ _) (wr_lit rfl) (fun c3 => ?_) (fun c3 => ?_)
        · replace h := ite_t h c3
          refine j_loc [1, 2, 3, 4, 0] rfl ?_
          exact s_Model_isQuarrel_L99 hk24 ih (hx1) (hx2) (hx3) (wr_gi _ _ _) h
        · replace h := ite_f h c3
          refine j_aloadn (k := 1) (D_Model_isQuarrel 50 rfl) rfl rfl ?_
          refine j_getR rfl fa_Model_178 kd_81 lc_81 (by decide) rfl fx_81_84 (by decide) (D_Model_isQuarrel 51 rfl) ?_
          refine j_iloadn (k := 4) (D_Model_isQuarrel 52 rfl) rfl rfl ?_
          have g3 := gd_c h
          replace h := gd_s h
          refine j_iald (NI := 12) (D_Model_isQuarrel 53 rfl) kd_136 lc_136 (hx3) rfl g3.1 g3.2 ?_
          refine j_iload (k := 0) (D_Model_isQuarrel 54 rfl) rfl ?_
          refine j_ic_eq (tgt := 99) (D_Model_isQuarrel 55 rfl) rfl (wr_gi _ _ _) (wr_gi _ _ _) (fun c4 => ?_) (fun c4 => ?_)
          · replace h := ite_t h c4
            refine j_loc [1, 2, 3, 4, 0] rfl ?_
            exact s_Model_isQuarrel_L99 hk24 ih (hx1) (hx2) (hx3) (wr_gi _ _ _) h
          · replace h := ite_f h c4
            refine j_iconst (v := 1) (D_Model_isQuarrel 56 rfl) rfl ?_
            exact j_zret (D_Model_isQuarrel 57 rfl) rfl (wr_lit rfl) (nz_01 (by decide)) rfl rfl (leafZ h (wr_n (wr_lit rfl)) (by decide))
      · replace h := ite_t h c2
        refine j_goto (tgt := 107) (D_Model_isQuarrel 43 rfl) rfl ?_
        refine j_loc [1, 2, 3, 4] rfl ?_
        exact s_Model_isQuarrel_L107 hk24 ih (hx1) (hx2) (hx3) h
def f_Model_isQuarrel_L24 : Nat → GS → Int → Int → Option (Int × GS)
  | 0, _, _, _ => none
  | n + 1, G, x1, x2 =>
    if 10 ≤ x2 then
      f_Model_isQuarrel_L121 FU G 0
    else
      if bAnd (bShr x1 x2) 1 = 1 then
        f_Model_isQuarrel_L113 (f_Model_isQuarrel_L24 n) G x1 x2
      else
        f_Model_isQuarrel_L44 (f_Model_isQuarrel_L24 n) FU G x1 x2 0
theorem s_Model_isQuarrel_L24 {X : XT} {r : Int × GS} : ∀ (n : Nat) {G : GS} {x1 : Int} {x2 : Int}, wr x1 = x1 → wr x2 = x2 → f_Model_isQuarrel_L24 n G x1 x2 = some r → J X true 6 0 0 M_Model_isQuarrel (Rz r.1 r.2) NC 0 0 24 [(0, rf X 81), (1, vi x1), (2, vi x2)] [] G := by
  intro n
  induction n with
  | zero =>
    intro G x1 x2 hx1 hx2 h
    exact none_some h
  | succ n ih =>
    intro G x1 x2 hx1 hx2 h
    rw [f_Model_isQuarrel_L24] at h
    refine j_iloadn (k := 2) (D_Model_isQuarrel 14 rfl) rfl rfl ?_
    refine j_bipush (v := 10) (D_Model_isQuarrel 15 rfl) rfl ?_
    refine j_ic_ge (tgt := 119) (D_Model_isQuarrel 16 rfl) rfl (hx2) (wr_lit rfl) (fun c1 => ?_) (fun c1 => ?_)
    · replace h := ite_t h c1
      refine j_iconst (v := 0) (D_Model_isQuarrel 67 rfl) rfl ?_
      refine j_istoren (L' := [(2, vi 0), (0, rf X 81), (1, vi x1)]) (D_Model_isQuarrel 68 rfl) rfl (wr_lit rfl) (by decide) rfl ?_
      refine j_loc [1, 0] rfl ?_
      exact s_Model_isQuarrel_L121 FU (wr_lit rfl) h
    · replace h := ite_f h c1
      refine j_iloadn (k := 1) (D_Model_isQuarrel 17 rfl) rfl rfl ?_
      refine j_iloadn (k := 2) (D_Model_isQuarrel 18 rfl) rfl rfl ?_
      refine j_ishr (D_Model_isQuarrel 19 rfl) ?_
      refine j_iconst (v := 1) (D_Model_isQuarrel 20 rfl) rfl ?_
      refine j_iand (D_Model_isQuarrel 21 rfl) ?_
      refine j_iconst (v := 1) (D_Model_isQuarrel 22 rfl) rfl ?_
      refine j_ic_ne (tgt := 42) (D_Model_isQuarrel 23 rfl) rfl (wr_bAnd _ _) (wr_lit rfl) (fun c2 => ?_) (fun c2 => ?_)
      · replace h := ite_f h c2
        refine j_iconst (v := 0) (D_Model_isQuarrel 25 rfl) rfl ?_
        refine j_istoren (L' := [(3, vi 0), (0, rf X 81), (1, vi x1), (2, vi x2)]) (D_Model_isQuarrel 26 rfl) rfl (wr_lit rfl) (by decide) rfl ?_
        refine j_loc [1, 2, 3, 0] rfl ?_
        exact s_Model_isQuarrel_L44 ih FU (hx1) (hx2) (wr_lit rfl) h
      · replace h := ite_t h c2
        refine j_goto (tgt := 113) (D_Model_isQuarrel 24 rfl) rfl ?_
        refine j_loc [0, 1, 2] rfl ?_
        exact s_Model_isQuarrel_L113 ih (hx1) (hx2) h
def f_Model_isQuarrel_L2 : Nat → GS → Int → Int → Option (Int × GS)
  | 0, _, _, _ => none
  | n + 1, G, x1, x2 =>
    if 12 ≤ x2 then
      f_Model_isQuarrel_L24 FU G x1 0
    else
      gd (0 ≤ x2 ∧ x2 < 12) <|
      wG (si G 136 x2.toNat (-2)) fun G1 =>
      f_Model_isQuarrel_L2 n G1 x1 (wr (x2 + 1))
theorem s_Model_isQuarrel_L2 {X : XT} {r : Int × GS} : ∀ (n : Nat) {G : GS} {x1 : Int} {x2 : Int}, wr x1 = x1 → wr x2 = x2 → f_Model_isQuarrel_L2 n G x1 x2 = some r → J X true 6 0 0 M_Model_isQuarrel (Rz r.1 r.2) NC 0 0 2 [(0, rf X 81), (1, vi x1), (2, vi x2)] [] G := by
  intro n
  induction n with
  | zero =>
    intro G x1 x2 hx1 hx2 h
    exact none_some h
  | succ n ih =>
    intro G x1 x2 hx1 hx2 h
    rw [f_Model_isQuarrel_L2] at h
    refine j_iloadn (k := 2) (D_Model_isQuarrel 2 rfl) rfl rfl ?_
    refine j_bipush (v := 12) (D_Model_isQuarrel 3 rfl) rfl ?_
    refine j_ic_ge (tgt := 22) (D_Model_isQuarrel 4 rfl) rfl (hx2) (wr_lit rfl) (fun c1 => ?_) (fun c1 => ?_)
    · replace h := ite_t h c1
      refine j_iconst (v := 0) (D_Model_isQuarrel 12 rfl) rfl ?_
      refine j_istoren (L' := [(2, vi 0), (0, rf X 81), (1, vi x1)]) (D_Model_isQuarrel 13 rfl) rfl (wr_lit rfl) (by decide) rfl ?_
      refine j_loc [1, 2, 0] rfl ?_
      exact s_Model_isQuarrel_L24 FU (hx1) (wr_lit rfl) h
    · replace h := ite_f h c1
      refine j_aloadn (k := 0) (D_Model_isQuarrel 5 rfl) rfl rfl ?_
      refine j_getR rfl fa_Model_178 kd_81 lc_81 (by decide) rfl fx_81_84 (by decide) (D_Model_isQuarrel 6 rfl) ?_
      refine j_iloadn (k := 2) (D_Model_isQuarrel 7 rfl) rfl rfl ?_
      refine j_bipush (v := (-2)) (D_Model_isQuarrel 8 rfl) rfl ?_
      have g1 := gd_c h
      replace h := gd_s h
      refine j_iast (NI := 12) (D_Model_isQuarrel 9 rfl) kd_136 lc_136 (hx2) rfl g1.1 g1.2 ?_
      refine j_gen (fun G1 e1 => ?_)
      replace h := wG_at h e1
      refine j_iinc (k := 2) (L' := [(2, vi (wr (x2 + 1))), (0, rf X 81), (1, vi x1)]) (D_Model_isQuarrel 10 rfl) rfl rfl (by decide) rfl ?_
      refine j_goto (tgt := 2) (D_Model_isQuarrel 11 rfl) rfl ?_
      refine j_loc [1, 2, 0] rfl ?_
      exact ih (hx1) (wr_wr _) h
def f_Model_isQuarrel (G : GS) (a1 : Int) : Option (Int × GS) :=
  f_Model_isQuarrel_L2 FU G a1 0
theorem c_Model_isQuarrel {X : XT} {G : GS} {a1 : Int} {r : Int × GS} (ha1 : wr a1 = a1) (h : f_Model_isQuarrel G a1 = some r) : Call X true 6 0 0 M_Model_isQuarrel [rf X 81, vi a1] NC G (Rz r.1 r.2) := by
  refine Call_of_J cw_Model_isQuarrel (by decide +kernel) (Nat.le_of_ble_eq_true rfl) ?_
  unfold f_Model_isQuarrel at h
  show J X true 6 0 0 M_Model_isQuarrel (Rz r.1 r.2) NC 0 0 0 [(0, rf X 81), (1, vi a1)] [] G
  refine j_iconst (v := 0) (D_Model_isQuarrel 0 rfl) rfl ?_
  refine j_istoren (L' := [(2, vi 0), (0, rf X 81), (1, vi a1)]) (D_Model_isQuarrel 1 rfl) rfl (wr_lit rfl) (by decide) rfl ?_
  refine j_loc [1, 2, 0] rfl ?_
  exact s_Model_isQuarrel_L2 FU (ha1) (wr_lit rfl) h
abbrev M_Model_bits : MI := (⟨"InquestHallModel", "bits", "(I)I"⟩, prog_14_method_101_code, 3, (some .int))
theorem cw_Model_bits : Cond.code M_Model_bits.1 M_Model_bits.2.1 M_Model_bits.2.2.1 M_Model_bits.2.2.2 ∈ TS := mTS (List.mem_of_getElem? (i := 2003) (by decide +kernel)) (by decide +kernel)
def tb_Model_bits : List (Nat × Instr × Nat) := [(0, .iconst 0, 1), (1, .istore_n 1, 1), (2, .iconst 0, 1), (3, .istore_n 2, 1), (4, .iload_n 2, 1), (5, .bipush 10, 2), (7, .if_icmp .ge 17, 3), (10, .iload_n 1, 1), (11, .iload_n 0, 1), (12, .iload_n 2, 1), (13, .ishr, 1), (14, .iconst 1, 1), (15, .iand, 1), (16, .iadd, 1), (17, .istore_n 1, 1), (18, .iinc 2 1, 3), (21, .goto (-17), 3), (24, .iload_n 1, 1), (25, .ireturn, 1)]
theorem D_Model_bits (i : Nat) {pc len : Nat} {ins : Instr} (hi : tb_Model_bits[i]? = some (pc, ins, len)) : decode M_Model_bits.2.1 pc = .ok (ins, len) := dec_of (by decide +kernel) i hi
def f_Model_bits_L4 (G : GS) : Nat → Int → Int → Int → Option (Int)
  | 0, _, _, _ => none
  | n + 1, x0, x1, x2 =>
    if 10 ≤ x2 then
      some x1
    else
      f_Model_bits_L4 G n x0 (wr (x1 + (bAnd (bShr x0 x2) 1))) (wr (x2 + 1))
theorem s_Model_bits_L4 {X : XT} {G : GS} {r : Int} : ∀ (n : Nat) {x0 : Int} {x1 : Int} {x2 : Int}, wr x0 = x0 → wr x1 = x1 → wr x2 = x2 → f_Model_bits_L4 G n x0 x1 x2 = some r → J X true 6 0 0 M_Model_bits (Ri r G) NC 0 0 4 [(0, vi x0), (1, vi x1), (2, vi x2)] [] G := by
  intro n
  induction n with
  | zero =>
    intro x0 x1 x2 hx0 hx1 hx2 h
    exact none_some h
  | succ n ih =>
    intro x0 x1 x2 hx0 hx1 hx2 h
    rw [f_Model_bits_L4] at h
    refine j_iloadn (k := 2) (D_Model_bits 4 rfl) rfl rfl ?_
    refine j_bipush (v := 10) (D_Model_bits 5 rfl) rfl ?_
    refine j_ic_ge (tgt := 24) (D_Model_bits 6 rfl) rfl (hx2) (wr_lit rfl) (fun c1 => ?_) (fun c1 => ?_)
    · replace h := ite_t h c1
      refine j_iloadn (k := 1) (D_Model_bits 17 rfl) rfl rfl ?_
      exact j_iret (D_Model_bits 18 rfl) rfl (hx1) rfl rfl (leafIo h (wr_n (hx1)))
    · replace h := ite_f h c1
      refine j_iloadn (k := 1) (D_Model_bits 7 rfl) rfl rfl ?_
      refine j_iloadn (k := 0) (D_Model_bits 8 rfl) rfl rfl ?_
      refine j_iloadn (k := 2) (D_Model_bits 9 rfl) rfl rfl ?_
      refine j_ishr (D_Model_bits 10 rfl) ?_
      refine j_iconst (v := 1) (D_Model_bits 11 rfl) rfl ?_
      refine j_iand (D_Model_bits 12 rfl) ?_
      refine j_iadd (D_Model_bits 13 rfl) ?_
      refine j_istoren (L' := [(1, vi (wr (x1 + (bAnd (bShr x0 x2) 1)))), (0, vi x0), (2, vi x2)]) (D_Model_bits 14 rfl) rfl (rfl) (by decide) rfl ?_
      refine j_iinc (k := 2) (L' := [(2, vi (wr (x2 + 1))), (1, vi (wr (x1 + (bAnd (bShr x0 x2) 1)))), (0, vi x0)]) (D_Model_bits 15 rfl) rfl rfl (by decide) rfl ?_
      refine j_goto (tgt := 4) (D_Model_bits 16 rfl) rfl ?_
      refine j_loc [2, 1, 0] rfl ?_
      exact ih (hx0) (wr_wr _) (wr_wr _) h
def f_Model_bits (G : GS) (a0 : Int) : Option (Int) :=
  f_Model_bits_L4 G FU a0 0 0
theorem c_Model_bits {X : XT} {G : GS} {a0 : Int} {r : Int} (ha0 : wr a0 = a0) (h : f_Model_bits G a0 = some r) : Call X true 6 0 0 M_Model_bits [vi a0] NC G (Ri r G) := by
  refine Call_of_J cw_Model_bits (by decide +kernel) (Nat.le_of_ble_eq_true rfl) ?_
  unfold f_Model_bits at h
  show J X true 6 0 0 M_Model_bits (Ri r G) NC 0 0 0 [(0, vi a0)] [] G
  refine j_iconst (v := 0) (D_Model_bits 0 rfl) rfl ?_
  refine j_istoren (L' := [(1, vi 0), (0, vi a0)]) (D_Model_bits 1 rfl) rfl (wr_lit rfl) (by decide) rfl ?_
  refine j_iconst (v := 0) (D_Model_bits 2 rfl) rfl ?_
  refine j_istoren (L' := [(2, vi 0), (1, vi 0), (0, vi a0)]) (D_Model_bits 3 rfl) rfl (wr_lit rfl) (by decide) rfl ?_
  refine j_loc [2, 1, 0] rfl ?_
  exact s_Model_bits_L4 FU (ha0) (wr_lit rfl) (wr_lit rfl) h
abbrev M_Model_fewest : MI := (⟨"InquestHallModel", "fewest", "()I"⟩, prog_14_method_102_code, 3, (some .int))
theorem cw_Model_fewest : Cond.code M_Model_fewest.1 M_Model_fewest.2.1 M_Model_fewest.2.2.1 M_Model_fewest.2.2.2 ∈ TS := mTS (List.mem_of_getElem? (i := 2000) (by decide +kernel)) (by decide +kernel)
theorem fa_Model_573 : FA "InquestHallModel" 573 12 86 false .int := ⟨_, _, _, _, ok_Model, by decide, mTS (List.mem_of_getElem? (i := 1387) (by decide +kernel)) (by decide +kernel), rfl, rfl⟩
theorem lk_Model_576 : Cond.methodLink "InquestHallModel" 576 M_Model_bits.1 ∈ TS := mTS (List.mem_of_getElem? (i := 2001) (by decide +kernel)) (by decide +kernel)
theorem sok_Model_bits : SOK M_Model_bits 1 := ⟨mTS (List.mem_of_getElem? (i := 2002) (by decide +kernel)) (by decide +kernel), mTS (List.mem_of_getElem? (i := 139) (by decide +kernel)) (by decide +kernel), cw_Model_bits, ⟨by decide, by decide, by decide +kernel⟩, by decide +kernel, by decide⟩
theorem lk_Model_579 : Cond.methodLink "InquestHallModel" 579 M_Model_isQuarrel.1 ∈ TS := mTS (List.mem_of_getElem? (i := 1993) (by decide +kernel)) (by decide +kernel)
theorem mok_Model_isQuarrel : MOK M_Model_isQuarrel 1 := ⟨mTS (List.mem_of_getElem? (i := 1995) (by decide +kernel)) (by decide +kernel), mTS (List.mem_of_getElem? (i := 119) (by decide +kernel)) (by decide +kernel), mTS (List.mem_of_getElem? (i := 139) (by decide +kernel)) (by decide +kernel), cw_Model_isQuarrel, ⟨by decide, by decide, by decide +kernel⟩, by decide +kernel, by decide⟩
def tb_Model_fewest : List (Nat × Instr × Nat) := [(0, .aload_n 0, 1), (1, .getfield 215, 3), (4, .ifCond .eq 8, 3), (7, .aload_n 0, 1), (8, .getfield 573, 3), (11, .ireturn, 1), (12, .iconst (-1), 1), (13, .istore_n 1, 1), (14, .iconst 0, 1), (15, .istore_n 2, 1), (16, .iload_n 2, 1), (17, .sipush 1024, 3), (20, .if_icmp .ge 35, 3), (23, .iload_n 1, 1), (24, .iconst (-1), 1), (25, .if_icmp .eq 14, 3), (28, .iload_n 2, 1), (29, .invokestatic 576, 3), (32, .iload_n 1, 1), (33, .invokestatic 576, 3), (36, .if_icmp .ge 13, 3), (39, .aload_n 0, 1), (40, .iload_n 2, 1), (41, .invokevirtual 579, 3), (44, .ifCond .ne 5, 3), (47, .iload_n 2, 1), (48, .istore_n 1, 1), (49, .iinc 2 1, 3), (52, .goto (-36), 3), (55, .aload_n 0, 1), (56, .iconst 1, 1), (57, .putfield 215, 3), (60, .aload_n 0, 1), (61, .iload_n 1, 1), (62, .putfield 573, 3), (65, .iload_n 1, 1), (66, .ireturn, 1)]
theorem D_Model_fewest (i : Nat) {pc len : Nat} {ins : Instr} (hi : tb_Model_fewest[i]? = some (pc, ins, len)) : decode M_Model_fewest.2.1 pc = .ok (ins, len) := dec_of (by decide +kernel) i hi
def f_Model_fewest_L49 (k16 : GS → Int → Int → Option (Int × GS)) (G : GS) (x1 : Int) (x2 : Int) : Option (Int × GS) :=
  k16 G x1 (wr (x2 + 1))
theorem s_Model_fewest_L49 {X : XT} {r : Int × GS} {k16 : GS → Int → Int → Option (Int × GS)} (hk16 : ∀ {G : GS} {x1 : Int} {x2 : Int} , wr x1 = x1 → wr x2 = x2 → k16 G x1 x2 = some r → J X true 7 0 0 M_Model_fewest (Ri r.1 r.2) NC 0 0 16 [(0, rf X 81), (1, vi x1), (2, vi x2)] [] G) : ∀ {G : GS} {x1 : Int} {x2 : Int}, wr x1 = x1 → wr x2 = x2 → f_Model_fewest_L49 k16 G x1 x2 = some r → J X true 7 0 0 M_Model_fewest (Ri r.1 r.2) NC 0 0 49 [(0, rf X 81), (1, vi x1), (2, vi x2)] [] G := by
  intro G x1 x2 hx1 hx2 h
  unfold f_Model_fewest_L49 at h
  refine j_iinc (k := 2) (L' := [(2, vi (wr (x2 + 1))), (0, rf X 81), (1, vi x1)]) (D_Model_fewest 27 rfl) rfl rfl (by decide) rfl ?_
  refine j_goto (tgt := 16) (D_Model_fewest 28 rfl) rfl ?_
  refine j_loc [1, 2, 0] rfl ?_
  exact hk16 (hx1) (wr_wr _) h
def f_Model_fewest_L39 (k16 : GS → Int → Int → Option (Int × GS)) (G : GS) (x1 : Int) (x2 : Int) : Option (Int × GS) :=
  (f_Model_isQuarrel G x2).bind fun q1 =>
  if q1.1 = 0 then
    f_Model_fewest_L49 k16 q1.2 x2 x2
  else
    f_Model_fewest_L49 k16 q1.2 x1 x2
theorem s_Model_fewest_L39 {X : XT} {r : Int × GS} {k16 : GS → Int → Int → Option (Int × GS)} (hk16 : ∀ {G : GS} {x1 : Int} {x2 : Int} , wr x1 = x1 → wr x2 = x2 → k16 G x1 x2 = some r → J X true 7 0 0 M_Model_fewest (Ri r.1 r.2) NC 0 0 16 [(0, rf X 81), (1, vi x1), (2, vi x2)] [] G) : ∀ {G : GS} {x1 : Int} {x2 : Int}, wr x1 = x1 → wr x2 = x2 → f_Model_fewest_L39 k16 G x1 x2 = some r → J X true 7 0 0 M_Model_fewest (Ri r.1 r.2) NC 0 0 39 [(0, rf X 81), (1, vi x1), (2, vi x2)] [] G := by
  intro G x1 x2 hx1 hx2 h
  unfold f_Model_fewest_L39 at h
  refine j_aloadn (k := 0) (D_Model_fewest 21 rfl) rfl rfl ?_
  refine j_iloadn (k := 2) (D_Model_fewest 22 rfl) rfl rfl ?_
  obtain ⟨q1, e1, h⟩ := Option.bind_eq_some_iff.mp h
  refine j_cVz (c_Model_isQuarrel (hx2) e1) rfl lk_Model_579 mok_Model_isQuarrel kd_81 lc_81 rfl (by decide) rfl rfl (Nat.le_of_ble_eq_true rfl) (D_Model_fewest 23 rfl) (fun w1 bw1 => ?_)
  refine j_if_ne (tgt := 49) (D_Model_fewest 24 rfl) rfl (w1) (fun c1 => ?_) (fun c1 => ?_)
  · replace h := ite_f h c1
    refine j_loc [0, 1, 2] rfl ?_
    exact s_Model_fewest_L49 hk16 (hx1) (hx2) h
  · replace h := ite_t h c1
    refine j_iloadn (k := 2) (D_Model_fewest 25 rfl) rfl rfl ?_
    refine j_istoren (L' := [(1, vi x2), (0, rf X 81), (2, vi x2)]) (D_Model_fewest 26 rfl) rfl (hx2) (by decide) rfl ?_
    refine j_loc [1, 0, 2] rfl ?_
    exact s_Model_fewest_L49 hk16 (hx2) (hx2) h
def f_Model_fewest_L16 : Nat → GS → Int → Int → Option (Int × GS)
  | 0, _, _, _ => none
  | n + 1, G, x1, x2 =>
    if 1024 ≤ x2 then
      wG (si G 81 85 1) fun G1 =>
      wG (si G1 81 86 x1) fun G2 =>
      some (x1, G2)
    else
      if x1 = (-1) then
        f_Model_fewest_L39 (f_Model_fewest_L16 n) G x1 x2
      else
        (f_Model_bits G x2).bind fun q1 =>
        (f_Model_bits G x1).bind fun q2 =>
        if q2 ≤ q1 then
          f_Model_fewest_L49 (f_Model_fewest_L16 n) G x1 x2
        else
          f_Model_fewest_L39 (f_Model_fewest_L16 n) G x1 x2
theorem s_Model_fewest_L16 {X : XT} {r : Int × GS} : ∀ (n : Nat) {G : GS} {x1 : Int} {x2 : Int}, wr x1 = x1 → wr x2 = x2 → f_Model_fewest_L16 n G x1 x2 = some r → J X true 7 0 0 M_Model_fewest (Ri r.1 r.2) NC 0 0 16 [(0, rf X 81), (1, vi x1), (2, vi x2)] [] G := by
  intro n
  induction n with
  | zero =>
    intro G x1 x2 hx1 hx2 h
    exact none_some h
  | succ n ih =>
    intro G x1 x2 hx1 hx2 h
    rw [f_Model_fewest_L16] at h
    refine j_iloadn (k := 2) (D_Model_fewest 10 rfl) rfl rfl ?_
    refine j_sipush (v := 1024) (D_Model_fewest 11 rfl) rfl ?_
    refine j_ic_ge (tgt := 55) (D_Model_fewest 12 rfl) rfl (hx2) (wr_lit rfl) (fun c1 => ?_) (fun c1 => ?_)
    · replace h := ite_t h c1
      refine j_aloadn (k := 0) (D_Model_fewest 29 rfl) rfl rfl ?_
      refine j_iconst (v := 1) (D_Model_fewest 30 rfl) rfl ?_
      refine j_putZ rfl fa_Model_215 kd_81 lc_81 (by decide) rfl (wr_lit rfl) (by decide) (D_Model_fewest 31 rfl) ?_
      refine j_gen (fun G1 e1 => ?_)
      replace h := wG_at h e1
      refine j_aloadn (k := 0) (D_Model_fewest 32 rfl) rfl rfl ?_
      refine j_iloadn (k := 1) (D_Model_fewest 33 rfl) rfl rfl ?_
      refine j_putI rfl fa_Model_573 kd_81 lc_81 (by decide) rfl (D_Model_fewest 34 rfl) ?_
      refine j_gen (fun G2 e2 => ?_)
      replace h := wG_at h e2
      refine j_iloadn (k := 1) (D_Model_fewest 35 rfl) rfl rfl ?_
      exact j_iret (D_Model_fewest 36 rfl) rfl (hx1) rfl rfl (leafI h (wr_n (hx1)))
    · replace h := ite_f h c1
      refine j_iloadn (k := 1) (D_Model_fewest 13 rfl) rfl rfl ?_
      refine j_iconst (v := (-1)) (D_Model_fewest 14 rfl) rfl ?_
      refine j_ic_eq (tgt := 39) (D_Model_fewest 15 rfl) rfl (hx1) (wr_lit rfl) (fun c2 => ?_) (fun c2 => ?_)
      · replace h := ite_t h c2
        refine j_loc [0, 1, 2] rfl ?_
        exact s_Model_fewest_L39 ih (hx1) (hx2) h
      · replace h := ite_f h c2
        refine j_iloadn (k := 2) (D_Model_fewest 16 rfl) rfl rfl ?_
        obtain ⟨q1, e3, h⟩ := Option.bind_eq_some_iff.mp h
        refine j_cSi (c_Model_bits (hx2) e3) rfl lk_Model_576 sok_Model_bits (by decide) rfl rfl (Nat.le_of_ble_eq_true rfl) (D_Model_fewest 17 rfl) (fun w1 => ?_)
        refine j_iloadn (k := 1) (D_Model_fewest 18 rfl) rfl rfl ?_
        obtain ⟨q2, e4, h⟩ := Option.bind_eq_some_iff.mp h
        refine j_cSi (c_Model_bits (hx1) e4) rfl lk_Model_576 sok_Model_bits (by decide) rfl rfl (Nat.le_of_ble_eq_true rfl) (D_Model_fewest 19 rfl) (fun w2 => ?_)
        refine j_ic_ge (tgt := 49) (D_Model_fewest 20 rfl) rfl (w1) (w2) (fun c3 => ?_) (fun c3 => ?_)
        · replace h := ite_t h c3
          refine j_loc [0, 1, 2] rfl ?_
          exact s_Model_fewest_L49 ih (hx1) (hx2) h
        · replace h := ite_f h c3
          refine j_loc [0, 1, 2] rfl ?_
          exact s_Model_fewest_L39 ih (hx1) (hx2) h
def f_Model_fewest (G : GS) : Option (Int × GS) :=
  if gi G 81 85 = 0 then
    f_Model_fewest_L16 FU G (-1) 0
  else
    some (gi G 81 86, G)
theorem c_Model_fewest {X : XT} {G : GS} {r : Int × GS} (h : f_Model_fewest G = some r) : Call X true 7 0 0 M_Model_fewest [rf X 81] NC G (Ri r.1 r.2) := by
  refine Call_of_J cw_Model_fewest (by decide +kernel) (Nat.le_of_ble_eq_true rfl) ?_
  unfold f_Model_fewest at h
  show J X true 7 0 0 M_Model_fewest (Ri r.1 r.2) NC 0 0 0 [(0, rf X 81)] [] G
  refine j_aloadn (k := 0) (D_Model_fewest 0 rfl) rfl rfl ?_
  refine j_getI rfl fa_Model_215 kd_81 lc_81 (by decide) rfl (D_Model_fewest 1 rfl) ?_
  refine j_if_eq (tgt := 12) (D_Model_fewest 2 rfl) rfl (wr_gi _ _ _) (fun c1 => ?_) (fun c1 => ?_)
  · replace h := ite_t h c1
    refine j_iconst (v := (-1)) (D_Model_fewest 6 rfl) rfl ?_
    refine j_istoren (L' := [(1, vi (-1)), (0, rf X 81)]) (D_Model_fewest 7 rfl) rfl (wr_lit rfl) (by decide) rfl ?_
    refine j_iconst (v := 0) (D_Model_fewest 8 rfl) rfl ?_
    refine j_istoren (L' := [(2, vi 0), (1, vi (-1)), (0, rf X 81)]) (D_Model_fewest 9 rfl) rfl (wr_lit rfl) (by decide) rfl ?_
    refine j_loc [2, 1, 0] rfl ?_
    exact s_Model_fewest_L16 FU (wr_lit rfl) (wr_lit rfl) h
  · replace h := ite_f h c1
    refine j_aloadn (k := 0) (D_Model_fewest 3 rfl) rfl rfl ?_
    refine j_getI rfl fa_Model_573 kd_81 lc_81 (by decide) rfl (D_Model_fewest 4 rfl) ?_
    exact j_iret (D_Model_fewest 5 rfl) rfl (wr_gi _ _ _) rfl rfl (leafI h (wr_n (wr_gi _ _ _)))
abbrev M_Model_quarrel : MI := (⟨"InquestHallModel", "quarrel", "(I)I"⟩, prog_14_method_103_code, 2, (some .int))
theorem cw_Model_quarrel : Cond.code M_Model_quarrel.1 M_Model_quarrel.2.1 M_Model_quarrel.2.2.1 M_Model_quarrel.2.2.2 ∈ TS := mTS (List.mem_of_getElem? (i := 1992) (by decide +kernel)) (by decide +kernel)
theorem lk_Model_582 : Cond.methodLink "InquestHallModel" 582 M_Model_fewest.1 ∈ TS := mTS (List.mem_of_getElem? (i := 1997) (by decide +kernel)) (by decide +kernel)
theorem mok_Model_fewest : MOK M_Model_fewest 0 := ⟨mTS (List.mem_of_getElem? (i := 1999) (by decide +kernel)) (by decide +kernel), mTS (List.mem_of_getElem? (i := 120) (by decide +kernel)) (by decide +kernel), mTS (List.mem_of_getElem? (i := 139) (by decide +kernel)) (by decide +kernel), cw_Model_fewest, ⟨by decide, by decide, by decide +kernel⟩, by decide +kernel, by decide⟩
def tb_Model_quarrel : List (Nat × Instr × Nat) := [(0, .iload_n 1, 1), (1, .ifCond .ne 17, 3), (4, .aload_n 0, 1), (5, .iconst 0, 1), (6, .invokevirtual 579, 3), (9, .ifCond .eq 7, 3), (12, .iconst 1, 1), (13, .goto 4, 3), (16, .iconst 0, 1), (17, .ireturn, 1), (18, .iload_n 1, 1), (19, .iconst 1, 1), (20, .if_icmp .ne 10, 3), (23, .aload_n 0, 1), (24, .invokevirtual 582, 3), (27, .goto 19, 3), (30, .iload_n 1, 1), (31, .iconst 2, 1), (32, .if_icmp .ne 13, 3), (35, .aload_n 0, 1), (36, .invokevirtual 582, 3), (39, .invokestatic 576, 3), (42, .goto 4, 3), (45, .iconst (-1), 1), (46, .ireturn, 1)]
theorem D_Model_quarrel (i : Nat) {pc len : Nat} {ins : Instr} (hi : tb_Model_quarrel[i]? = some (pc, ins, len)) : decode M_Model_quarrel.2.1 pc = .ok (ins, len) := dec_of (by decide +kernel) i hi
def f_Model_quarrel (G : GS) (a1 : Int) : Option (Int × GS) :=
  if a1 = 0 then
    (f_Model_isQuarrel G 0).bind fun q4 =>
    if q4.1 = 0 then
      some (0, q4.2)
    else
      some (1, q4.2)
  else
    if a1 = 1 then
      (f_Model_fewest G).bind fun q3 =>
      some (q3.1, q3.2)
    else
      if a1 = 2 then
        (f_Model_fewest G).bind fun q1 =>
        (f_Model_bits q1.2 q1.1).bind fun q2 =>
        some (q2, q1.2)
      else
        some ((-1), G)
theorem c_Model_quarrel {X : XT} {G : GS} {a1 : Int} {r : Int × GS} (ha1 : wr a1 = a1) (h : f_Model_quarrel G a1 = some r) : Call X true 8 0 0 M_Model_quarrel [rf X 81, vi a1] NC G (Ri r.1 r.2) := by
  refine Call_of_J cw_Model_quarrel (by decide +kernel) (Nat.le_of_ble_eq_true rfl) ?_
  unfold f_Model_quarrel at h
  show J X true 8 0 0 M_Model_quarrel (Ri r.1 r.2) NC 0 0 0 [(0, rf X 81), (1, vi a1)] [] G
  refine j_iloadn (k := 1) (D_Model_quarrel 0 rfl) rfl rfl ?_
  refine j_if_ne (tgt := 18) (D_Model_quarrel 1 rfl) rfl (ha1) (fun c1 => ?_) (fun c1 => ?_)
  · replace h := ite_f h c1
    refine j_iloadn (k := 1) (D_Model_quarrel 10 rfl) rfl rfl ?_
    refine j_iconst (v := 1) (D_Model_quarrel 11 rfl) rfl ?_
    refine j_ic_ne (tgt := 30) (D_Model_quarrel 12 rfl) rfl (ha1) (wr_lit rfl) (fun c2 => ?_) (fun c2 => ?_)
    · replace h := ite_f h c2
      refine j_iloadn (k := 1) (D_Model_quarrel 16 rfl) rfl rfl ?_
      refine j_iconst (v := 2) (D_Model_quarrel 17 rfl) rfl ?_
      refine j_ic_ne (tgt := 45) (D_Model_quarrel 18 rfl) rfl (ha1) (wr_lit rfl) (fun c3 => ?_) (fun c3 => ?_)
      · replace h := ite_f h c3
        refine j_iconst (v := (-1)) (D_Model_quarrel 23 rfl) rfl ?_
        exact j_iret (D_Model_quarrel 24 rfl) rfl (wr_lit rfl) rfl rfl (leafI h (wr_n (wr_lit rfl)))
      · replace h := ite_t h c3
        refine j_aloadn (k := 0) (D_Model_quarrel 19 rfl) rfl rfl ?_
        obtain ⟨q1, e1, h⟩ := Option.bind_eq_some_iff.mp h
        refine j_cVi (c_Model_fewest e1) rfl lk_Model_582 mok_Model_fewest kd_81 lc_81 rfl (by decide) rfl rfl (Nat.le_of_ble_eq_true rfl) (D_Model_quarrel 20 rfl) (fun w1 => ?_)
        obtain ⟨q2, e2, h⟩ := Option.bind_eq_some_iff.mp h
        refine j_cSi (c_Model_bits (w1) e2) rfl lk_Model_576 sok_Model_bits (by decide) rfl rfl (Nat.le_of_ble_eq_true rfl) (D_Model_quarrel 21 rfl) (fun w2 => ?_)
        refine j_goto (tgt := 46) (D_Model_quarrel 22 rfl) rfl ?_
        exact j_iret (D_Model_quarrel 24 rfl) rfl (w2) rfl rfl (leafI h (wr_n (w2)))
    · replace h := ite_t h c2
      refine j_aloadn (k := 0) (D_Model_quarrel 13 rfl) rfl rfl ?_
      obtain ⟨q3, e3, h⟩ := Option.bind_eq_some_iff.mp h
      refine j_cVi (c_Model_fewest e3) rfl lk_Model_582 mok_Model_fewest kd_81 lc_81 rfl (by decide) rfl rfl (Nat.le_of_ble_eq_true rfl) (D_Model_quarrel 14 rfl) (fun w3 => ?_)
      refine j_goto (tgt := 46) (D_Model_quarrel 15 rfl) rfl ?_
      exact j_iret (D_Model_quarrel 24 rfl) rfl (w3) rfl rfl (leafI h (wr_n (w3)))
  · replace h := ite_t h c1
    refine j_aloadn (k := 0) (D_Model_quarrel 2 rfl) rfl rfl ?_
    refine j_iconst (v := 0) (D_Model_quarrel 3 rfl) rfl ?_
    obtain ⟨q4, e4, h⟩ := Option.bind_eq_some_iff.mp h
    refine j_cVz (c_Model_isQuarrel (wr_lit rfl) e4) rfl lk_Model_579 mok_Model_isQuarrel kd_81 lc_81 rfl (by decide) rfl rfl (Nat.le_of_ble_eq_true rfl) (D_Model_quarrel 4 rfl) (fun w4 bw4 => ?_)
    refine j_if_eq (tgt := 16) (D_Model_quarrel 5 rfl) rfl (w4) (fun c4 => ?_) (fun c4 => ?_)
    · replace h := ite_t h c4
      refine j_iconst (v := 0) (D_Model_quarrel 8 rfl) rfl ?_
      exact j_iret (D_Model_quarrel 9 rfl) rfl (wr_lit rfl) rfl rfl (leafI h (wr_n (wr_lit rfl)))
    · replace h := ite_f h c4
      refine j_iconst (v := 1) (D_Model_quarrel 6 rfl) rfl ?_
      refine j_goto (tgt := 17) (D_Model_quarrel 7 rfl) rfl ?_
      exact j_iret (D_Model_quarrel 9 rfl) rfl (wr_lit rfl) rfl rfl (leafI h (wr_n (wr_lit rfl)))
abbrev M_Hall_chain : MI := (⟨"InquestHall", "chain", "(II)I"⟩, prog_1_method_34_code, 3, (some .int))
theorem cw_Hall_chain : Cond.code M_Hall_chain.1 M_Hall_chain.2.1 M_Hall_chain.2.2.1 M_Hall_chain.2.2.2 ∈ TS := mTS (List.mem_of_getElem? (i := 1289) (by decide +kernel)) (by decide +kernel)
theorem lk_Hall_346 : Cond.methodLink "InquestHall" 346 M_Juries_above.1 ∈ TS := mTS (List.mem_of_getElem? (i := 1290) (by decide +kernel)) (by decide +kernel)
def tb_Hall_chain : List (Nat × Instr × Nat) := [(0, .aload_n 0, 1), (1, .getfield 19, 3), (4, .iload_n 1, 1), (5, .invokevirtual 150, 3), (8, .ifCond .eq 7, 3), (11, .iload_n 2, 1), (12, .ifCond .ge 6, 3), (15, .bipush (-2), 2), (17, .ireturn, 1), (18, .aload_n 0, 1), (19, .getfield 81, 3), (22, .invokevirtual 337, 3), (25, .aload_n 0, 1), (26, .getfield 81, 3), (29, .iload_n 1, 1), (30, .iload_n 2, 1), (31, .invokevirtual 346, 3), (34, .ireturn, 1)]
theorem D_Hall_chain (i : Nat) {pc len : Nat} {ins : Instr} (hi : tb_Hall_chain[i]? = some (pc, ins, len)) : decode M_Hall_chain.2.1 pc = .ok (ins, len) := dec_of (by decide +kernel) i hi
def f_Hall_chain (G : GS) (a1 : Int) (a2 : Int) : Option (Int × GS) :=
  (f_Lands_has G a1).bind fun q1 =>
  if q1 = 0 then
    some ((-2), G)
  else
    if 0 ≤ a2 then
      (f_Juries_weigh G).bind fun q2 =>
      (f_Juries_above q2 a1 a2).bind fun q3 =>
      some (q3, q2)
    else
      some ((-2), G)
theorem c_Hall_chain {X : XT} {G : GS} {a1 : Int} {a2 : Int} {r : Int × GS} (ha1 : wr a1 = a1) (ha2 : wr a2 = a2) (h : f_Hall_chain G a1 a2 = some r) : Call X true 12 0 0 M_Hall_chain [rf X 0, vi a1, vi a2] NC G (Ri r.1 r.2) := by
  refine Call_of_J cw_Hall_chain (by decide +kernel) (Nat.le_of_ble_eq_true rfl) ?_
  unfold f_Hall_chain at h
  show J X true 12 0 0 M_Hall_chain (Ri r.1 r.2) NC 0 0 0 [(0, rf X 0), (1, vi a1), (2, vi a2)] [] G
  refine j_aloadn (k := 0) (D_Hall_chain 0 rfl) rfl rfl ?_
  refine j_getR rfl fa_Hall_19 kd_0 lc_0 (by decide) rfl fx_0_1 (by decide) (D_Hall_chain 1 rfl) ?_
  refine j_iloadn (k := 1) (D_Hall_chain 2 rfl) rfl rfl ?_
  obtain ⟨q1, e1, h⟩ := Option.bind_eq_some_iff.mp h
  refine j_cVz (c_Lands_has (ha1) e1) rfl lk_Hall_150 mok_Lands_has kd_9 lc_9 rfl (by decide) rfl rfl (Nat.le_of_ble_eq_true rfl) (D_Hall_chain 3 rfl) (fun w1 bw1 => ?_)
  refine j_if_eq (tgt := 15) (D_Hall_chain 4 rfl) rfl (w1) (fun c1 => ?_) (fun c1 => ?_)
  · replace h := ite_t h c1
    refine j_bipush (v := (-2)) (D_Hall_chain 7 rfl) rfl ?_
    exact j_iret (D_Hall_chain 8 rfl) rfl (wr_lit rfl) rfl rfl (leafI h (wr_n (wr_lit rfl)))
  · replace h := ite_f h c1
    refine j_iloadn (k := 2) (D_Hall_chain 5 rfl) rfl rfl ?_
    refine j_if_ge (tgt := 18) (D_Hall_chain 6 rfl) rfl (ha2) (fun c2 => ?_) (fun c2 => ?_)
    · replace h := ite_t h c2
      refine j_aloadn (k := 0) (D_Hall_chain 9 rfl) rfl rfl ?_
      refine j_getR rfl fa_Hall_81 kd_0 lc_0 (by decide) rfl fx_0_9 (by decide) (D_Hall_chain 10 rfl) ?_
      obtain ⟨q2, e2, h⟩ := Option.bind_eq_some_iff.mp h
      refine j_cVv (c_Juries_weigh e2) rfl lk_Hall_337 mok_Juries_weigh kd_45 lc_45 rfl (by decide) rfl rfl (Nat.le_of_ble_eq_true rfl) (D_Hall_chain 11 rfl) ?_
      refine j_aloadn (k := 0) (D_Hall_chain 12 rfl) rfl rfl ?_
      refine j_getR rfl fa_Hall_81 kd_0 lc_0 (by decide) rfl fx_0_9 (by decide) (D_Hall_chain 13 rfl) ?_
      refine j_iloadn (k := 1) (D_Hall_chain 14 rfl) rfl rfl ?_
      refine j_iloadn (k := 2) (D_Hall_chain 15 rfl) rfl rfl ?_
      obtain ⟨q3, e3, h⟩ := Option.bind_eq_some_iff.mp h
      refine j_cVi (c_Juries_above (ha1) (ha2) e3) rfl lk_Hall_346 mok_Juries_above kd_45 lc_45 rfl (by decide) rfl rfl (Nat.le_of_ble_eq_true rfl) (D_Hall_chain 16 rfl) (fun w2 => ?_)
      exact j_iret (D_Hall_chain 17 rfl) rfl (w2) rfl rfl (leafI h (wr_n (w2)))
    · replace h := ite_f h c2
      refine j_bipush (v := (-2)) (D_Hall_chain 7 rfl) rfl ?_
      exact j_iret (D_Hall_chain 8 rfl) rfl (wr_lit rfl) rfl rfl (leafI h (wr_n (wr_lit rfl)))
abbrev M_Model_chain : MI := (⟨"InquestHallModel", "chain", "(II)I"⟩, prog_14_method_104_code, 5, (some .int))
theorem cw_Model_chain : Cond.code M_Model_chain.1 M_Model_chain.2.1 M_Model_chain.2.2.1 M_Model_chain.2.2.2 ∈ TS := mTS (List.mem_of_getElem? (i := 2007) (by decide +kernel)) (by decide +kernel)
def tb_Model_chain : List (Nat × Instr × Nat) := [(0, .aload_n 0, 1), (1, .iload_n 1, 1), (2, .invokevirtual 219, 3), (5, .ifCond .eq 7, 3), (8, .iload_n 2, 1), (9, .ifCond .ge 6, 3), (12, .bipush (-2), 2), (14, .ireturn, 1), (15, .aload_n 0, 1), (16, .aload_n 0, 1), (17, .invokevirtual 582, 3), (20, .invokevirtual 579, 3), (23, .ifCond .eq 7, 3), (26, .iconst (-1), 1), (27, .goto 4, 3), (30, .iload_n 1, 1), (31, .istore_n 3, 1), (32, .iconst 0, 1), (33, .istore 4, 2), (35, .iload 4, 2), (37, .iload_n 2, 1), (38, .if_icmp .gt 20, 3), (41, .iload_n 3, 1), (42, .ifCond .lt 16, 3), (45, .aload_n 0, 1), (46, .getfield 178, 3), (49, .iload_n 3, 1), (50, .iaload, 1), (51, .istore_n 3, 1), (52, .iinc 4 1, 3), (55, .goto (-20), 3), (58, .iload_n 3, 1), (59, .ifCond .ge 7, 3), (62, .iconst (-1), 1), (63, .goto 4, 3), (66, .iload_n 3, 1), (67, .ireturn, 1)]
theorem D_Model_chain (i : Nat) {pc len : Nat} {ins : Instr} (hi : tb_Model_chain[i]? = some (pc, ins, len)) : decode M_Model_chain.2.1 pc = .ok (ins, len) := dec_of (by decide +kernel) i hi
def f_Model_chain_L58 (G : GS) (x3 : Int) : Option (Int × GS) :=
  if 0 ≤ x3 then
    some (x3, G)
  else
    some ((-1), G)
theorem s_Model_chain_L58 {X : XT} {r : Int × GS} : ∀ {G : GS} {x3 : Int}, wr x3 = x3 → f_Model_chain_L58 G x3 = some r → J X true 8 0 0 M_Model_chain (Ri r.1 r.2) NC 0 0 58 [(0, rf X 81), (3, vi x3)] [] G := by
  intro G x3 hx3 h
  unfold f_Model_chain_L58 at h
  refine j_iloadn (k := 1) (D_Model_chain 31 rfl) rfl rfl ?_
  refine j_if_ge (tgt := 66) (D_Model_chain 32 rfl) rfl (hx3) (fun c1 => ?_) (fun c1 => ?_)
  · replace h := ite_t h c1
    refine j_iloadn (k := 1) (D_Model_chain 35 rfl) rfl rfl ?_
    exact j_iret (D_Model_chain 36 rfl) rfl (hx3) rfl rfl (leafI h (wr_n (hx3)))
  · replace h := ite_f h c1
    refine j_iconst (v := (-1)) (D_Model_chain 33 rfl) rfl ?_
    refine j_goto (tgt := 67) (D_Model_chain 34 rfl) rfl ?_
    exact j_iret (D_Model_chain 36 rfl) rfl (wr_lit rfl) rfl rfl (leafI h (wr_n (wr_lit rfl)))
def f_Model_chain_L35 : Nat → GS → Int → Int → Int → Option (Int × GS)
  | 0, _, _, _, _ => none
  | n + 1, G, x2, x3, x4 =>
    if x2 < x4 then
      f_Model_chain_L58 G x3
    else
      if x3 < 0 then
        f_Model_chain_L58 G x3
      else
        gd (0 ≤ x3 ∧ x3 < 12) <|
        f_Model_chain_L35 n G x2 (gi G 136 x3.toNat) (wr (x4 + 1))
theorem s_Model_chain_L35 {X : XT} {r : Int × GS} : ∀ (n : Nat) {G : GS} {x2 : Int} {x3 : Int} {x4 : Int}, wr x2 = x2 → wr x3 = x3 → wr x4 = x4 → f_Model_chain_L35 n G x2 x3 x4 = some r → J X true 8 0 0 M_Model_chain (Ri r.1 r.2) NC 0 0 35 [(0, rf X 81), (2, vi x2), (3, vi x3), (4, vi x4)] [] G := by
  intro n
  induction n with
  | zero =>
    intro G x2 x3 x4 hx2 hx3 hx4 h
    exact none_some h
  | succ n ih =>
    intro G x2 x3 x4 hx2 hx3 hx4 h
    rw [f_Model_chain_L35] at h
    refine j_iload (k := 3) (D_Model_chain 19 rfl) rfl ?_
    refine j_iloadn (k := 1) (D_Model_chain 20 rfl) rfl rfl ?_
    refine j_ic_gt (tgt := 58) (D_Model_chain 21 rfl) rfl (hx4) (hx2) (fun c1 => ?_) (fun c1 => ?_)
    · replace h := ite_t h c1
      refine j_loc [0, 2] rfl ?_
      exact s_Model_chain_L58 (hx3) h
    · replace h := ite_f h c1
      refine j_iloadn (k := 2) (D_Model_chain 22 rfl) rfl rfl ?_
      refine j_if_lt (tgt := 58) (D_Model_chain 23 rfl) rfl (hx3) (fun c2 => ?_) (fun c2 => ?_)
      · replace h := ite_t h c2
        refine j_loc [0, 2] rfl ?_
        exact s_Model_chain_L58 (hx3) h
      · replace h := ite_f h c2
        refine j_aloadn (k := 0) (D_Model_chain 24 rfl) rfl rfl ?_
        refine j_getR rfl fa_Model_178 kd_81 lc_81 (by decide) rfl fx_81_84 (by decide) (D_Model_chain 25 rfl) ?_
        refine j_iloadn (k := 2) (D_Model_chain 26 rfl) rfl rfl ?_
        have g1 := gd_c h
        replace h := gd_s h
        refine j_iald (NI := 12) (D_Model_chain 27 rfl) kd_136 lc_136 (hx3) rfl g1.1 g1.2 ?_
        refine j_istoren (L' := [(3, vi (gi G 136 x3.toNat)), (0, rf X 81), (2, vi x2), (4, vi x4)]) (D_Model_chain 28 rfl) rfl (wr_gi _ _ _) (by decide) rfl ?_
        refine j_iinc (k := 3) (L' := [(4, vi (wr (x4 + 1))), (3, vi (gi G 136 x3.toNat)), (0, rf X 81), (2, vi x2)]) (D_Model_chain 29 rfl) rfl rfl (by decide) rfl ?_
        refine j_goto (tgt := 35) (D_Model_chain 30 rfl) rfl ?_
        refine j_loc [2, 3, 1, 0] rfl ?_
        exact ih (hx2) (wr_gi _ _ _) (wr_wr _) h
def f_Model_chain_L31 (G : GS) (x2 : Int) (s0 : Int) : Option (Int × GS) :=
  f_Model_chain_L35 FU G x2 s0 0
theorem s_Model_chain_L31 {X : XT} {r : Int × GS} : ∀ {G : GS} {x2 : Int} {s0 : Int}, wr x2 = x2 → wr s0 = s0 → f_Model_chain_L31 G x2 s0 = some r → J X true 8 0 0 M_Model_chain (Ri r.1 r.2) NC 0 0 31 [(0, rf X 81), (2, vi x2)] [vi s0] G := by
  intro G x2 s0 hx2 hs0 h
  unfold f_Model_chain_L31 at h
  refine j_istoren (L' := [(3, vi s0), (0, rf X 81), (2, vi x2)]) (D_Model_chain 16 rfl) rfl (hs0) (by decide) rfl ?_
  refine j_iconst (v := 0) (D_Model_chain 17 rfl) rfl ?_
  refine j_istore (L' := [(4, vi 0), (3, vi s0), (0, rf X 81), (2, vi x2)]) (D_Model_chain 18 rfl) (wr_lit rfl) (by decide) rfl ?_
  refine j_loc [2, 3, 1, 0] rfl ?_
  exact s_Model_chain_L35 FU (hx2) (hs0) (wr_lit rfl) h
def f_Model_chain (G : GS) (a1 : Int) (a2 : Int) : Option (Int × GS) :=
  (f_Model_isLand G a1).bind fun q1 =>
  if q1 = 0 then
    some ((-2), G)
  else
    if 0 ≤ a2 then
      (f_Model_fewest G).bind fun q2 =>
      (f_Model_isQuarrel q2.2 q2.1).bind fun q3 =>
      if q3.1 = 0 then
        f_Model_chain_L31 q3.2 a2 a1
      else
        f_Model_chain_L31 q3.2 a2 (-1)
    else
      some ((-2), G)
theorem c_Model_chain {X : XT} {G : GS} {a1 : Int} {a2 : Int} {r : Int × GS} (ha1 : wr a1 = a1) (ha2 : wr a2 = a2) (h : f_Model_chain G a1 a2 = some r) : Call X true 8 0 0 M_Model_chain [rf X 81, vi a1, vi a2] NC G (Ri r.1 r.2) := by
  refine Call_of_J cw_Model_chain (by decide +kernel) (Nat.le_of_ble_eq_true rfl) ?_
  unfold f_Model_chain at h
  show J X true 8 0 0 M_Model_chain (Ri r.1 r.2) NC 0 0 0 [(0, rf X 81), (1, vi a1), (2, vi a2)] [] G
  refine j_aloadn (k := 0) (D_Model_chain 0 rfl) rfl rfl ?_
  refine j_iloadn (k := 1) (D_Model_chain 1 rfl) rfl rfl ?_
  obtain ⟨q1, e1, h⟩ := Option.bind_eq_some_iff.mp h
  refine j_cVz (c_Model_isLand (ha1) e1) rfl lk_Model_219 mok_Model_isLand kd_81 lc_81 rfl (by decide) rfl rfl (Nat.le_of_ble_eq_true rfl) (D_Model_chain 2 rfl) (fun w1 bw1 => ?_)
  refine j_if_eq (tgt := 12) (D_Model_chain 3 rfl) rfl (w1) (fun c1 => ?_) (fun c1 => ?_)
  · replace h := ite_t h c1
    refine j_bipush (v := (-2)) (D_Model_chain 6 rfl) rfl ?_
    exact j_iret (D_Model_chain 7 rfl) rfl (wr_lit rfl) rfl rfl (leafI h (wr_n (wr_lit rfl)))
  · replace h := ite_f h c1
    refine j_iloadn (k := 2) (D_Model_chain 4 rfl) rfl rfl ?_
    refine j_if_ge (tgt := 15) (D_Model_chain 5 rfl) rfl (ha2) (fun c2 => ?_) (fun c2 => ?_)
    · replace h := ite_t h c2
      refine j_aloadn (k := 0) (D_Model_chain 8 rfl) rfl rfl ?_
      refine j_aloadn (k := 0) (D_Model_chain 9 rfl) rfl rfl ?_
      obtain ⟨q2, e2, h⟩ := Option.bind_eq_some_iff.mp h
      refine j_cVi (c_Model_fewest e2) rfl lk_Model_582 mok_Model_fewest kd_81 lc_81 rfl (by decide) rfl rfl (Nat.le_of_ble_eq_true rfl) (D_Model_chain 10 rfl) (fun w2 => ?_)
      obtain ⟨q3, e3, h⟩ := Option.bind_eq_some_iff.mp h
      refine j_cVz (c_Model_isQuarrel (w2) e3) rfl lk_Model_579 mok_Model_isQuarrel kd_81 lc_81 rfl (by decide) rfl rfl (Nat.le_of_ble_eq_true rfl) (D_Model_chain 11 rfl) (fun w3 bw3 => ?_)
      refine j_if_eq (tgt := 30) (D_Model_chain 12 rfl) rfl (w3) (fun c3 => ?_) (fun c3 => ?_)
      · replace h := ite_t h c3
        refine j_iloadn (k := 1) (D_Model_chain 15 rfl) rfl rfl ?_
        refine j_loc [0, 2] rfl ?_
        exact s_Model_chain_L31 (ha2) (ha1) h
      · replace h := ite_f h c3
        refine j_iconst (v := (-1)) (D_Model_chain 13 rfl) rfl ?_
        refine j_goto (tgt := 31) (D_Model_chain 14 rfl) rfl ?_
        refine j_loc [0, 2] rfl ?_
        exact s_Model_chain_L31 (ha2) (wr_lit rfl) h
    · replace h := ite_f h c2
      refine j_bipush (v := (-2)) (D_Model_chain 6 rfl) rfl ?_
      exact j_iret (D_Model_chain 7 rfl) rfl (wr_lit rfl) rfl rfl (leafI h (wr_n (wr_lit rfl)))
