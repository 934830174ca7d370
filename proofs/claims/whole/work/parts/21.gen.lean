/-! printed by wip/whole/gen.py out of the listing of the bytecode -/
abbrev M_Hall_heldOfKing : MI := (⟨"InquestHall", "heldOfKing", "(I)Z"⟩, prog_1_method_46_code, 4, (some .boolean))
theorem cw_Hall_heldOfKing : Cond.code M_Hall_heldOfKing.1 M_Hall_heldOfKing.2.1 M_Hall_heldOfKing.2.2.1 M_Hall_heldOfKing.2.2.2 ∈ TS := mTS (List.mem_of_getElem? (i := 1078) (by decide +kernel)) (by decide +kernel)
theorem fa_Hall_393 : FA "InquestHall" 393 2 5 false .int := ⟨_, _, _, _, ok_Lands, by decide, mTS (List.mem_of_getElem? (i := 211) (by decide +kernel)) (by decide +kernel), rfl, rfl⟩
theorem fa_Hall_373 : FA "InquestHall" 373 2 2 true (.array .int) := ⟨_, _, _, _, ok_Lands, by decide, mTS (List.mem_of_getElem? (i := 205) (by decide +kernel)) (by decide +kernel), rfl, rfl⟩
theorem fa_Hall_74 : FA "InquestHall" 74 0 8 true (.object "InquestHall$Seizings") := ⟨_, _, _, _, ok_Hall, by decide, mTS (List.mem_of_getElem? (i := 600) (by decide +kernel)) (by decide +kernel), rfl, rfl⟩
theorem fx_0_8 {G : GS} (w : WF true NC G) : G.2.2 0 8 = 38 := w.2 rfl (0, 8, 38) (by decide)
theorem lk_Hall_300 : Cond.methodLink "InquestHall" 300 M_Seizings_holderAt.1 ∈ TS := mTS (List.mem_of_getElem? (i := 1079) (by decide +kernel)) (by decide +kernel)
theorem mok_Seizings_holderAt : MOK M_Seizings_holderAt 3 := ⟨mTS (List.mem_of_getElem? (i := 1080) (by decide +kernel)) (by decide +kernel), mTS (List.mem_of_getElem? (i := 1081) (by decide +kernel)) (by decide +kernel), mTS (List.mem_of_getElem? (i := 136) (by decide +kernel)) (by decide +kernel), cw_Seizings_holderAt, ⟨by decide, by decide, by decide +kernel⟩, by decide +kernel, by decide⟩
def tb_Hall_heldOfKing : List (Nat × Instr × Nat) := [(0, .iconst 0, 1), (1, .istore_n 2, 1), (2, .iload_n 2, 1), (3, .aload_n 0, 1), (4, .getfield 19, 3), (7, .getfield 393, 3), (10, .if_icmp .ge 73, 3), (13, .aload_n 0, 1), (14, .getfield 19, 3), (17, .getfield 373, 3), (20, .iload_n 2, 1), (21, .iaload, 1), (22, .iconst (-1), 1), (23, .if_icmp .ne 19, 3), (26, .aload_n 0, 1), (27, .getfield 19, 3), (30, .getfield 358, 3), (33, .iload_n 2, 1), (34, .iaload, 1), (35, .ifCond .ne 7, 3), (38, .iconst 1, 1), (39, .goto 4, 3), (42, .iconst 0, 1), (43, .istore_n 3, 1), (44, .iload_n 3, 1), (45, .ifCond .eq 32, 3), (48, .aload_n 0, 1), (49, .getfield 74, 3), (52, .iload_n 2, 1), (53, .aload_n 0, 1), (54, .getfield 12, 3), (57, .getfield 131, 3), (60, .iload_n 1, 1), (61, .iaload, 1), (62, .iconst 1, 1), (63, .isub, 1), (64, .aload_n 0, 1), (65, .getfield 104, 3), (68, .invokevirtual 300, 3), (71, .iload_n 1, 1), (72, .if_icmp .ne 5, 3), (75, .iconst 1, 1), (76, .ireturn, 1), (77, .iinc 2 1, 3), (80, .goto (-78), 3), (83, .iconst 0, 1), (84, .ireturn, 1)]
theorem D_Hall_heldOfKing (i : Nat) {pc len : Nat} {ins : Instr} (hi : tb_Hall_heldOfKing[i]? = some (pc, ins, len)) : decode M_Hall_heldOfKing.2.1 pc = .ok (ins, len) := dec_of (by decide +kernel) i hi
def f_Hall_heldOfKing_L77 (G : GS) (k2 : Int → Int → Option (Int)) (x1 : Int) (x2 : Int) : Option (Int) :=
  k2 x1 (wr (x2 + 1))
theorem s_Hall_heldOfKing_L77 {X : XT} {G : GS} {r : Int} {k2 : Int → Int → Option (Int)} (hk2 : ∀ {x1 : Int} {x2 : Int} , wr x1 = x1 → wr x2 = x2 → k2 x1 x2 = some r → J X true 7 0 0 M_Hall_heldOfKing (Rz r G) NC 0 0 2 [(0, rf X 0), (1, vi x1), (2, vi x2)] [] G) : ∀ {x1 : Int} {x2 : Int}, wr x1 = x1 → wr x2 = x2 → f_Hall_heldOfKing_L77 G k2 x1 x2 = some r → J X true 7 0 0 M_Hall_heldOfKing (Rz r G) NC 0 0 77 [(0, rf X 0), (1, vi x1), (2, vi x2)] [] G := by
  intro x1 x2 hx1 hx2 h
  unfold f_Hall_heldOfKing_L77 at h
  refine j_iinc (k := 2) (L' := [(2, vi (wr (x2 + 1))), (0, rf X 0), (1, vi x1)]) (D_Hall_heldOfKing 43 rfl) rfl rfl (by decide) rfl ?_
  refine j_goto (tgt := 2) (D_Hall_heldOfKing 44 rfl) rfl ?_
  refine j_loc [1, 2, 0] rfl ?_
  exact hk2 (hx1) (wr_wr _) h
def f_Hall_heldOfKing_L43 (G : GS) (k2 : Int → Int → Option (Int)) (x1 : Int) (x2 : Int) (s0 : Int) : Option (Int) :=
  if s0 = 0 then
    f_Hall_heldOfKing_L77 G k2 x1 x2
  else
    gd (0 ≤ x1 ∧ x1 < 32) <|
    (f_Seizings_holderAt G x2 (wr ((gi G 7 x1.toNat) - 1)) (gi G 0 14)).bind fun q1 =>
    if q1 = x1 then
      some 1
    else
      f_Hall_heldOfKing_L77 G k2 x1 x2
theorem s_Hall_heldOfKing_L43 {X : XT} {G : GS} {r : Int} {k2 : Int → Int → Option (Int)} (hk2 : ∀ {x1 : Int} {x2 : Int} , wr x1 = x1 → wr x2 = x2 → k2 x1 x2 = some r → J X true 7 0 0 M_Hall_heldOfKing (Rz r G) NC 0 0 2 [(0, rf X 0), (1, vi x1), (2, vi x2)] [] G) : ∀ {x1 : Int} {x2 : Int} {s0 : Int}, wr x1 = x1 → wr x2 = x2 → wr s0 = s0 → f_Hall_heldOfKing_L43 G k2 x1 x2 s0 = some r → J X true 7 0 0 M_Hall_heldOfKing (Rz r G) NC 0 0 43 [(0, rf X 0), (1, vi x1), (2, vi x2)] [vi s0] G := by
  intro x1 x2 s0 hx1 hx2 hs0 h
  unfold f_Hall_heldOfKing_L43 at h
  refine j_istoren (L' := [(3, vi s0), (0, rf X 0), (1, vi x1), (2, vi x2)]) (D_Hall_heldOfKing 23 rfl) rfl (hs0) (by decide) rfl ?_
  refine j_iloadn (k := 0) (D_Hall_heldOfKing 24 rfl) rfl rfl ?_
  refine j_if_eq (tgt := 77) (D_Hall_heldOfKing 25 rfl) rfl (hs0) (fun c1 => ?_) (fun c1 => ?_)
  · replace h := ite_t h c1
    refine j_loc [1, 2, 3] rfl ?_
    exact s_Hall_heldOfKing_L77 hk2 (hx1) (hx2) h
  · replace h := ite_f h c1
    refine j_aloadn (k := 1) (D_Hall_heldOfKing 26 rfl) rfl rfl ?_
    refine j_getR rfl fa_Hall_74 kd_0 lc_0 (by decide) rfl fx_0_8 (by decide) (D_Hall_heldOfKing 27 rfl) ?_
    refine j_iloadn (k := 3) (D_Hall_heldOfKing 28 rfl) rfl rfl ?_
    refine j_aloadn (k := 1) (D_Hall_heldOfKing 29 rfl) rfl rfl ?_
    refine j_getR rfl fa_Hall_12 kd_0 lc_0 (by decide) rfl fx_0_0 (by decide) (D_Hall_heldOfKing 30 rfl) ?_
    refine j_getR rfl fa_Hall_131 kd_1 lc_1 (by decide) rfl fx_1_5 (by decide) (D_Hall_heldOfKing 31 rfl) ?_
    refine j_iloadn (k := 2) (D_Hall_heldOfKing 32 rfl) rfl rfl ?_
    have g1 := gd_c h
    replace h := gd_s h
    refine j_iald (NI := 32) (D_Hall_heldOfKing 33 rfl) kd_7 lc_7 (hx1) rfl g1.1 g1.2 ?_
    refine j_iconst (v := 1) (D_Hall_heldOfKing 34 rfl) rfl ?_
    refine j_isub (D_Hall_heldOfKing 35 rfl) ?_
    refine j_aloadn (k := 1) (D_Hall_heldOfKing 36 rfl) rfl rfl ?_
    refine j_getI rfl fa_Hall_104 kd_0 lc_0 (by decide) rfl (D_Hall_heldOfKing 37 rfl) ?_
    refine j_top1 (rfl) ?_
    obtain ⟨q1, e1, h⟩ := Option.bind_eq_some_iff.mp h
    refine j_cVi (c_Seizings_holderAt (hx2) (wr_wr _) (wr_gi _ _ _) e1) rfl lk_Hall_300 mok_Seizings_holderAt kd_38 lc_38 rfl (by decide) rfl rfl (Nat.le_of_ble_eq_true rfl) (D_Hall_heldOfKing 38 rfl) (fun w1 => ?_)
    refine j_iloadn (k := 2) (D_Hall_heldOfKing 39 rfl) rfl rfl ?_
    refine j_ic_ne (tgt := 77) (D_Hall_heldOfKing 40 rfl) rfl (w1) (hx1) (fun c2 => ?_) (fun c2 => ?_)
    · replace h := ite_f h c2
      refine j_loc [1, 2, 3] rfl ?_
      exact s_Hall_heldOfKing_L77 hk2 (hx1) (hx2) h
    · replace h := ite_t h c2
      refine j_iconst (v := 1) (D_Hall_heldOfKing 41 rfl) rfl ?_
      exact j_zret (D_Hall_heldOfKing 42 rfl) rfl (wr_lit rfl) (nz_01 (by decide)) rfl rfl (leafZo h (wr_n (wr_lit rfl)) (by decide))
def f_Hall_heldOfKing_L42 (G : GS) (k2 : Int → Int → Option (Int)) (x1 : Int) (x2 : Int) : Option (Int) :=
  f_Hall_heldOfKing_L43 G k2 x1 x2 0
theorem s_Hall_heldOfKing_L42 {X : XT} {G : GS} {r : Int} {k2 : Int → Int → Option (Int)} (hk2 : ∀ {x1 : Int} {x2 : Int} , wr x1 = x1 → wr x2 = x2 → k2 x1 x2 = some r → J X true 7 0 0 M_Hall_heldOfKing (Rz r G) NC 0 0 2 [(0, rf X 0), (1, vi x1), (2, vi x2)] [] G) : ∀ {x1 : Int} {x2 : Int}, wr x1 = x1 → wr x2 = x2 → f_Hall_heldOfKing_L42 G k2 x1 x2 = some r → J X true 7 0 0 M_Hall_heldOfKing (Rz r G) NC 0 0 42 [(0, rf X 0), (1, vi x1), (2, vi x2)] [] G := by
  intro x1 x2 hx1 hx2 h
  unfold f_Hall_heldOfKing_L42 at h
  refine j_iconst (v := 0) (D_Hall_heldOfKing 22 rfl) rfl ?_
  refine j_loc [0, 1, 2] rfl ?_
  exact s_Hall_heldOfKing_L43 hk2 (hx1) (hx2) (wr_lit rfl) h
def f_Hall_heldOfKing_L2 (G : GS) : Nat → Int → Int → Option (Int)
  | 0, _, _ => none
  | n + 1, x1, x2 =>
    if gi G 9 5 ≤ x2 then
      some 0
    else
      gd (0 ≤ x2 ∧ x2 < 12) <|
      if gi G 12 x2.toNat = (-1) then
        gd (0 ≤ x2 ∧ x2 < 12) <|
        if gi G 11 x2.toNat = 0 then
          f_Hall_heldOfKing_L43 G (f_Hall_heldOfKing_L2 G n) x1 x2 1
        else
          f_Hall_heldOfKing_L42 G (f_Hall_heldOfKing_L2 G n) x1 x2
      else
        f_Hall_heldOfKing_L42 G (f_Hall_heldOfKing_L2 G n) x1 x2
theorem s_Hall_heldOfKing_L2 {X : XT} {G : GS} {r : Int} : ∀ (n : Nat) {x1 : Int} {x2 : Int}, wr x1 = x1 → wr x2 = x2 → f_Hall_heldOfKing_L2 G n x1 x2 = some r → J X true 7 0 0 M_Hall_heldOfKing (Rz r G) NC 0 0 2 [(0, rf X 0), (1, vi x1), (2, vi x2)] [] G := by
  intro n
  induction n with
  | zero =>
    intro x1 x2 hx1 hx2 h
    exact none_some h
  | succ n ih =>
    intro x1 x2 hx1 hx2 h
    rw [f_Hall_heldOfKing_L2] at h
    refine j_iloadn (k := 2) (D_Hall_heldOfKing 2 rfl) rfl rfl ?_
    refine j_aloadn (k := 0) (D_Hall_heldOfKing 3 rfl) rfl rfl ?_
    refine j_getR rfl fa_Hall_19 kd_0 lc_0 (by decide) rfl fx_0_1 (by decide) (D_Hall_heldOfKing 4 rfl) ?_
    refine j_getI rfl fa_Hall_393 kd_9 lc_9 (by decide) rfl (D_Hall_heldOfKing 5 rfl) ?_
    refine j_ic_ge (tgt := 83) (D_Hall_heldOfKing 6 rfl) rfl (hx2) (wr_gi _ _ _) (fun c1 => ?_) (fun c1 => ?_)
    · replace h := ite_t h c1
      refine j_iconst (v := 0) (D_Hall_heldOfKing 45 rfl) rfl ?_
      exact j_zret (D_Hall_heldOfKing 46 rfl) rfl (wr_lit rfl) (nz_01 (by decide)) rfl rfl (leafZo h (wr_n (wr_lit rfl)) (by decide))
    · replace h := ite_f h c1
      refine j_aloadn (k := 0) (D_Hall_heldOfKing 7 rfl) rfl rfl ?_
      refine j_getR rfl fa_Hall_19 kd_0 lc_0 (by decide) rfl fx_0_1 (by decide) (D_Hall_heldOfKing 8 rfl) ?_
      refine j_getR rfl fa_Hall_373 kd_9 lc_9 (by decide) rfl fx_9_2 (by decide) (D_Hall_heldOfKing 9 rfl) ?_
      refine j_iloadn (k := 2) (D_Hall_heldOfKing 10 rfl) rfl rfl ?_
      have g1 := gd_c h
      replace h := gd_s h
      refine j_iald (NI := 12) (D_Hall_heldOfKing 11 rfl) kd_12 lc_12 (hx2) rfl g1.1 g1.2 ?_
      refine j_iconst (v := (-1)) (D_Hall_heldOfKing 12 rfl) rfl ?_
      refine j_ic_ne (tgt := 42) (D_Hall_heldOfKing 13 rfl) rfl (wr_gi _ _ _) (wr_lit rfl) (fun c2 => ?_) (fun c2 => ?_)
      · replace h := ite_f h c2
        refine j_loc [0, 1, 2] rfl ?_
        exact s_Hall_heldOfKing_L42 ih (hx1) (hx2) h
      · replace h := ite_t h c2
        refine j_aloadn (k := 0) (D_Hall_heldOfKing 14 rfl) rfl rfl ?_
        refine j_getR rfl fa_Hall_19 kd_0 lc_0 (by decide) rfl fx_0_1 (by decide) (D_Hall_heldOfKing 15 rfl) ?_
        refine j_getR rfl fa_Hall_358 kd_9 lc_9 (by decide) rfl fx_9_1 (by decide) (D_Hall_heldOfKing 16 rfl) ?_
        refine j_iloadn (k := 2) (D_Hall_heldOfKing 17 rfl) rfl rfl ?_
        have g2 := gd_c h
        replace h := gd_s h
        refine j_iald (NI := 12) (D_Hall_heldOfKing 18 rfl) kd_11 lc_11 (hx2) rfl g2.1 g2.2 ?_
        refine j_if_ne (tgt := 42) (D_Hall_heldOfKing 19 rfl) rfl (wr_gi _ _ _) (fun c3 => ?_) (fun c3 => ?_)
        · replace h := ite_f h c3
          refine j_loc [0, 1, 2] rfl ?_
          exact s_Hall_heldOfKing_L42 ih (hx1) (hx2) h
        · replace h := ite_t h c3
          refine j_iconst (v := 1) (D_Hall_heldOfKing 20 rfl) rfl ?_
          refine j_goto (tgt := 43) (D_Hall_heldOfKing 21 rfl) rfl ?_
          refine j_loc [0, 1, 2] rfl ?_
          exact s_Hall_heldOfKing_L43 ih (hx1) (hx2) (wr_lit rfl) h
def f_Hall_heldOfKing (G : GS) (a1 : Int) : Option (Int) :=
  f_Hall_heldOfKing_L2 G FU a1 0
theorem c_Hall_heldOfKing {X : XT} {G : GS} {a1 : Int} {r : Int} (ha1 : wr a1 = a1) (h : f_Hall_heldOfKing G a1 = some r) : Call X true 7 0 0 M_Hall_heldOfKing [rf X 0, vi a1] NC G (Rz r G) := by
  refine Call_of_J cw_Hall_heldOfKing (by decide +kernel) (Nat.le_of_ble_eq_true rfl) ?_
  unfold f_Hall_heldOfKing at h
  show J X true 7 0 0 M_Hall_heldOfKing (Rz r G) NC 0 0 0 [(0, rf X 0), (1, vi a1)] [] G
  refine j_iconst (v := 0) (D_Hall_heldOfKing 0 rfl) rfl ?_
  refine j_istoren (L' := [(2, vi 0), (0, rf X 0), (1, vi a1)]) (D_Hall_heldOfKing 1 rfl) rfl (wr_lit rfl) (by decide) rfl ?_
  refine j_loc [1, 2, 0] rfl ?_
  exact s_Hall_heldOfKing_L2 FU (ha1) (wr_lit rfl) h
abbrev M_Hall_isKingsRight : MI := (⟨"InquestHall", "isKingsRight", "(II)Z"⟩, prog_1_method_45_code, 4, (some .boolean))
theorem cw_Hall_isKingsRight : Cond.code M_Hall_isKingsRight.1 M_Hall_isKingsRight.2.1 M_Hall_isKingsRight.2.2.1 M_Hall_isKingsRight.2.2.2 ∈ TS := mTS (List.mem_of_getElem? (i := 1039) (by decide +kernel)) (by decide +kernel)
theorem lk_Hall_384 : Cond.methodLink "InquestHall" 384 M_Descent_firstHeir.1 ∈ TS := mTS (List.mem_of_getElem? (i := 1040) (by decide +kernel)) (by decide +kernel)
theorem mok_Descent_firstHeir : MOK M_Descent_firstHeir 0 := ⟨mTS (List.mem_of_getElem? (i := 1041) (by decide +kernel)) (by decide +kernel), mTS (List.mem_of_getElem? (i := 1042) (by decide +kernel)) (by decide +kernel), mTS (List.mem_of_getElem? (i := 134) (by decide +kernel)) (by decide +kernel), cw_Descent_firstHeir, ⟨by decide, by decide, by decide +kernel⟩, by decide +kernel, by decide⟩
theorem lk_Hall_238 : Cond.methodLink "InquestHall" 238 M_Hall_ask.1 ∈ TS := mTS (List.mem_of_getElem? (i := 1044) (by decide +kernel)) (by decide +kernel)
theorem mok_Hall_ask : MOK M_Hall_ask 3 := ⟨mTS (List.mem_of_getElem? (i := 1046) (by decide +kernel)) (by decide +kernel), mTS (List.mem_of_getElem? (i := 39) (by decide +kernel)) (by decide +kernel), mTS (List.mem_of_getElem? (i := 122) (by decide +kernel)) (by decide +kernel), cw_Hall_ask, ⟨by decide, by decide, by decide +kernel⟩, by decide +kernel, by decide⟩
theorem lk_Hall_242 : Cond.methodLink "InquestHall" 242 M_Reckoner_reckon.1 ∈ TS := mTS (List.mem_of_getElem? (i := 1056) (by decide +kernel)) (by decide +kernel)
theorem mok_Reckoner_reckon : MOK M_Reckoner_reckon 1 := ⟨mTS (List.mem_of_getElem? (i := 1057) (by decide +kernel)) (by decide +kernel), mTS (List.mem_of_getElem? (i := 1058) (by decide +kernel)) (by decide +kernel), mTS (List.mem_of_getElem? (i := 135) (by decide +kernel)) (by decide +kernel), cw_Reckoner_reckon, ⟨by decide, by decide, by decide +kernel⟩, by decide +kernel, by decide⟩
theorem fa_Hall_387 : FA "InquestHall" 387 8 4 false .boolean := ⟨_, _, _, _, ok_Reckoner, by decide, mTS (List.mem_of_getElem? (i := 465) (by decide +kernel)) (by decide +kernel), rfl, rfl⟩
theorem lk_Hall_390 : Cond.methodLink "InquestHall" 390 M_Hall_heldOfKing.1 ∈ TS := mTS (List.mem_of_getElem? (i := 1075) (by decide +kernel)) (by decide +kernel)
theorem mok_Hall_heldOfKing : MOK M_Hall_heldOfKing 1 := ⟨mTS (List.mem_of_getElem? (i := 1077) (by decide +kernel)) (by decide +kernel), mTS (List.mem_of_getElem? (i := 43) (by decide +kernel)) (by decide +kernel), mTS (List.mem_of_getElem? (i := 122) (by decide +kernel)) (by decide +kernel), cw_Hall_heldOfKing, ⟨by decide, by decide, by decide +kernel⟩, by decide +kernel, by decide⟩
def tb_Hall_isKingsRight : List (Nat × Instr × Nat) := [(0, .aload_n 0, 1), (1, .getfield 60, 3), (4, .invokevirtual 384, 3), (7, .istore_n 3, 1), (8, .iload_n 3, 1), (9, .iconst (-1), 1), (10, .if_icmp .eq 12, 3), (13, .aload_n 0, 1), (14, .getfield 60, 3), (17, .iload_n 3, 1), (18, .iconst 0, 1), (19, .invokevirtual 205, 3), (22, .aload_n 0, 1), (23, .iload_n 1, 1), (24, .iload_n 2, 1), (25, .iload_n 3, 1), (26, .invokevirtual 238, 3), (29, .aload_n 0, 1), (30, .getfield 67, 3), (33, .aload_n 0, 1), (34, .aload_n 0, 1), (35, .getfield 12, 3), (38, .getfield 131, 3), (41, .iload_n 1, 1), (42, .iaload, 1), (43, .invokevirtual 185, 3), (46, .invokevirtual 242, 3), (49, .aload_n 0, 1), (50, .getfield 67, 3), (53, .getfield 387, 3), (56, .ifCond .ne 11, 3), (59, .aload_n 0, 1), (60, .iload_n 1, 1), (61, .invokevirtual 390, 3), (64, .ifCond .eq 7, 3), (67, .iconst 1, 1), (68, .goto 4, 3), (71, .iconst 0, 1), (72, .ireturn, 1)]
theorem D_Hall_isKingsRight (i : Nat) {pc len : Nat} {ins : Instr} (hi : tb_Hall_isKingsRight[i]? = some (pc, ins, len)) : decode M_Hall_isKingsRight.2.1 pc = .ok (ins, len) := dec_of (by decide +kernel) i hi
def f_Hall_isKingsRight_L22 (G : GS) (x1 : Int) (x2 : Int) (x3 : Int) : Option (Int × GS) :=
  (f_Hall_ask G x1 x2 x3).bind fun q1 =>
  gd (0 ≤ x1 ∧ x1 < 32) <|
  (f_Hall_lawAt q1 (gi q1 7 x1.toNat)).bind fun q2 =>
  (f_Reckoner_reckon q1 q2).bind fun q3 =>
  if gi q3 35 4 = 0 then
    (f_Hall_heldOfKing q3 x1).bind fun q4 =>
    if q4 = 0 then
      some (0, q3)
    else
      some (1, q3)
  else
    some (1, q3)
theorem s_Hall_isKingsRight_L22 {X : XT} {r : Int × GS} : ∀ {G : GS} {x1 : Int} {x2 : Int} {x3 : Int}, wr x1 = x1 → wr x2 = x2 → wr x3 = x3 → f_Hall_isKingsRight_L22 G x1 x2 x3 = some r → J X true 14 0 0 M_Hall_isKingsRight (Rz r.1 r.2) NC 0 0 22 [(0, rf X 0), (1, vi x1), (2, vi x2), (3, vi x3)] [] G := by
  intro G x1 x2 x3 hx1 hx2 hx3 h
  unfold f_Hall_isKingsRight_L22 at h
  refine j_aloadn (k := 0) (D_Hall_isKingsRight 12 rfl) rfl rfl ?_
  refine j_iloadn (k := 1) (D_Hall_isKingsRight 13 rfl) rfl rfl ?_
  refine j_iloadn (k := 2) (D_Hall_isKingsRight 14 rfl) rfl rfl ?_
  refine j_iloadn (k := 3) (D_Hall_isKingsRight 15 rfl) rfl rfl ?_
  obtain ⟨q1, e1, h⟩ := Option.bind_eq_some_iff.mp h
  refine j_cVv (c_Hall_ask (hx1) (hx2) (hx3) e1) rfl lk_Hall_238 mok_Hall_ask kd_0 lc_0 rfl (by decide) rfl rfl (Nat.le_of_ble_eq_true rfl) (D_Hall_isKingsRight 16 rfl) ?_
  refine j_aloadn (k := 0) (D_Hall_isKingsRight 17 rfl) rfl rfl ?_
  refine j_getR rfl fa_Hall_67 kd_0 lc_0 (by decide) rfl fx_0_7 (by decide) (D_Hall_isKingsRight 18 rfl) ?_
  refine j_aloadn (k := 0) (D_Hall_isKingsRight 19 rfl) rfl rfl ?_
  refine j_aloadn (k := 0) (D_Hall_isKingsRight 20 rfl) rfl rfl ?_
  refine j_getR rfl fa_Hall_12 kd_0 lc_0 (by decide) rfl fx_0_0 (by decide) (D_Hall_isKingsRight 21 rfl) ?_
  refine j_getR rfl fa_Hall_131 kd_1 lc_1 (by decide) rfl fx_1_5 (by decide) (D_Hall_isKingsRight 22 rfl) ?_
  refine j_iloadn (k := 1) (D_Hall_isKingsRight 23 rfl) rfl rfl ?_
  have g1 := gd_c h
  replace h := gd_s h
  refine j_iald (NI := 32) (D_Hall_isKingsRight 24 rfl) kd_7 lc_7 (hx1) rfl g1.1 g1.2 ?_
  obtain ⟨q2, e2, h⟩ := Option.bind_eq_some_iff.mp h
  refine j_cVr (c_Hall_lawAt (wr_gi _ _ _) e2) rfl lk_Hall_185 mok_Hall_lawAt kd_0 lc_0 rfl (by decide) rfl rfl (Nat.le_of_ble_eq_true rfl) (D_Hall_isKingsRight 25 rfl) (fun w1 => ?_)
  obtain ⟨q3, e3, h⟩ := Option.bind_eq_some_iff.mp h
  refine j_cVv (c_Reckoner_reckon w1 e3) rfl lk_Hall_242 mok_Reckoner_reckon kd_35 lc_35 rfl (by decide) rfl rfl (Nat.le_of_ble_eq_true rfl) (D_Hall_isKingsRight 26 rfl) ?_
  refine j_aloadn (k := 0) (D_Hall_isKingsRight 27 rfl) rfl rfl ?_
  refine j_getR rfl fa_Hall_67 kd_0 lc_0 (by decide) rfl fx_0_7 (by decide) (D_Hall_isKingsRight 28 rfl) ?_
  refine j_getI rfl fa_Hall_387 kd_35 lc_35 (by decide) rfl (D_Hall_isKingsRight 29 rfl) ?_
  refine j_if_ne (tgt := 67) (D_Hall_isKingsRight 30 rfl) rfl (wr_gi _ _ _) (fun c1 => ?_) (fun c1 => ?_)
  · replace h := ite_f h c1
    refine j_iconst (v := 1) (D_Hall_isKingsRight 35 rfl) rfl ?_
    refine j_goto (tgt := 72) (D_Hall_isKingsRight 36 rfl) rfl ?_
    exact j_zret (D_Hall_isKingsRight 38 rfl) rfl (wr_lit rfl) (nz_01 (by decide)) rfl rfl (leafZ h (wr_n (wr_lit rfl)) (by decide))
  · replace h := ite_t h c1
    refine j_aloadn (k := 0) (D_Hall_isKingsRight 31 rfl) rfl rfl ?_
    refine j_iloadn (k := 1) (D_Hall_isKingsRight 32 rfl) rfl rfl ?_
    obtain ⟨q4, e4, h⟩ := Option.bind_eq_some_iff.mp h
    refine j_cVz (c_Hall_heldOfKing (hx1) e4) rfl lk_Hall_390 mok_Hall_heldOfKing kd_0 lc_0 rfl (by decide) rfl rfl (Nat.le_of_ble_eq_true rfl) (D_Hall_isKingsRight 33 rfl) (fun w2 bw2 => ?_)
    refine j_if_eq (tgt := 71) (D_Hall_isKingsRight 34 rfl) rfl (w2) (fun c2 => ?_) (fun c2 => ?_)
    · replace h := ite_t h c2
      refine j_iconst (v := 0) (D_Hall_isKingsRight 37 rfl) rfl ?_
      exact j_zret (D_Hall_isKingsRight 38 rfl) rfl (wr_lit rfl) (nz_01 (by decide)) rfl rfl (leafZ h (wr_n (wr_lit rfl)) (by decide))
    · replace h := ite_f h c2
      refine j_iconst (v := 1) (D_Hall_isKingsRight 35 rfl) rfl ?_
      refine j_goto (tgt := 72) (D_Hall_isKingsRight 36 rfl) rfl ?_
      exact j_zret (D_Hall_isKingsRight 38 rfl) rfl (wr_lit rfl) (nz_01 (by decide)) rfl rfl (leafZ h (wr_n (wr_lit rfl)) (by decide))
def f_Hall_isKingsRight (G : GS) (a1 : Int) (a2 : Int) : Option (Int × GS) :=
  (f_Descent_firstHeir G).bind fun q1 =>
  if q1 = (-1) then
    f_Hall_isKingsRight_L22 G a1 a2 q1
  else
    (f_Descent_part G q1 0).bind fun q2 =>
    f_Hall_isKingsRight_L22 q2 a1 a2 q1
theorem c_Hall_isKingsRight {X : XT} {G : GS} {a1 : Int} {a2 : Int} {r : Int × GS} (ha1 : wr a1 = a1) (ha2 : wr a2 = a2) (h : f_Hall_isKingsRight G a1 a2 = some r) : Call X true 14 0 0 M_Hall_isKingsRight [rf X 0, vi a1, vi a2] NC G (Rz r.1 r.2) := by
  refine Call_of_J cw_Hall_isKingsRight (by decide +kernel) (Nat.le_of_ble_eq_true rfl) ?_
  unfold f_Hall_isKingsRight at h
  show J X true 14 0 0 M_Hall_isKingsRight (Rz r.1 r.2) NC 0 0 0 [(0, rf X 0), (1, vi a1), (2, vi a2)] [] G
  refine j_aloadn (k := 0) (D_Hall_isKingsRight 0 rfl) rfl rfl ?_
  refine j_getR rfl fa_Hall_60 kd_0 lc_0 (by decide) rfl fx_0_6 (by decide) (D_Hall_isKingsRight 1 rfl) ?_
  obtain ⟨q1, e1, h⟩ := Option.bind_eq_some_iff.mp h
  refine j_cVi (c_Descent_firstHeir e1) rfl lk_Hall_384 mok_Descent_firstHeir kd_30 lc_30 rfl (by decide) rfl rfl (Nat.le_of_ble_eq_true rfl) (D_Hall_isKingsRight 2 rfl) (fun w1 => ?_)
  refine j_istoren (L' := [(3, vi q1), (0, rf X 0), (1, vi a1), (2, vi a2)]) (D_Hall_isKingsRight 3 rfl) rfl (w1) (by decide) rfl ?_
  refine j_iloadn (k := 0) (D_Hall_isKingsRight 4 rfl) rfl rfl ?_
  refine j_iconst (v := (-1)) (D_Hall_isKingsRight 5 rfl) rfl ?_
  refine j_ic_eq (tgt := 22) (D_Hall_isKingsRight 6 rfl) rfl (w1) (wr_lit rfl) (fun c1 => ?_) (fun c1 => ?_)
  · replace h := ite_t h c1
    refine j_loc [1, 2, 3, 0] rfl ?_
    exact s_Hall_isKingsRight_L22 (ha1) (ha2) (w1) h
  · replace h := ite_f h c1
    refine j_aloadn (k := 1) (D_Hall_isKingsRight 7 rfl) rfl rfl ?_
    refine j_getR rfl fa_Hall_60 kd_0 lc_0 (by decide) rfl fx_0_6 (by decide) (D_Hall_isKingsRight 8 rfl) ?_
    refine j_iloadn (k := 0) (D_Hall_isKingsRight 9 rfl) rfl rfl ?_
    refine j_iconst (v := 0) (D_Hall_isKingsRight 10 rfl) rfl ?_
    obtain ⟨q2, e2, h⟩ := Option.bind_eq_some_iff.mp h
    refine j_cVv (c_Descent_part (w1) (wr_lit rfl) e2) rfl lk_Hall_205 mok_Descent_part kd_30 lc_30 rfl (by decide) rfl rfl (Nat.le_of_ble_eq_true rfl) (D_Hall_isKingsRight 11 rfl) ?_
    refine j_loc [1, 2, 3, 0] rfl ?_
    exact s_Hall_isKingsRight_L22 (ha1) (ha2) (w1) h
abbrev M_Hall_guardian : MI := (⟨"InquestHall", "guardian", "(III)I"⟩, prog_1_method_43_code, 7, (some .int))
theorem cw_Hall_guardian : Cond.code M_Hall_guardian.1 M_Hall_guardian.2.1 M_Hall_guardian.2.2.1 M_Hall_guardian.2.2.2 ∈ TS := mTS (List.mem_of_getElem? (i := 1086) (by decide +kernel)) (by decide +kernel)
theorem fa_Hall_367 : FA "InquestHall" 367 11 3 true (.array .int) := ⟨_, _, _, _, ok_Law, by decide, mTS (List.mem_of_getElem? (i := 554) (by decide +kernel)) (by decide +kernel), rfl, rfl⟩
theorem fa_Hall_370 : FA "InquestHall" 370 1 2 true (.array .int) := ⟨_, _, _, _, ok_People, by decide, mTS (List.mem_of_getElem? (i := 163) (by decide +kernel)) (by decide +kernel), rfl, rfl⟩
theorem lk_Hall_254 : Cond.methodLink "InquestHall" 254 M_People_isAlive.1 ∈ TS := mTS (List.mem_of_getElem? (i := 1087) (by decide +kernel)) (by decide +kernel)
theorem fa_Hall_376 : FA "InquestHall" 376 1 1 true (.array .int) := ⟨_, _, _, _, ok_People, by decide, mTS (List.mem_of_getElem? (i := 160) (by decide +kernel)) (by decide +kernel), rfl, rfl⟩
def tb_Hall_guardian : List (Nat × Instr × Nat) := [(0, .aload_n 0, 1), (1, .getfield 12, 3), (4, .getfield 131, 3), (7, .iload_n 1, 1), (8, .iaload, 1), (9, .istore 4, 2), (11, .aload_n 0, 1), (12, .iload 4, 2), (14, .invokevirtual 185, 3), (17, .getfield 367, 3), (20, .aload_n 0, 1), (21, .getfield 19, 3), (24, .getfield 358, 3), (27, .iload_n 2, 1), (28, .iaload, 1), (29, .iaload, 1), (30, .istore 5, 2), (32, .aload_n 0, 1), (33, .getfield 12, 3), (36, .getfield 370, 3), (39, .iload_n 3, 1), (40, .iaload, 1), (41, .istore 6, 2), (43, .iload 5, 2), (45, .iconst 1, 1), (46, .if_icmp .ne 5, 3), (49, .iconst (-1), 1), (50, .ireturn, 1), (51, .iload 5, 2), (53, .ifCond .eq 9, 3), (56, .iload 6, 2), (58, .iconst (-1), 1), (59, .if_icmp .ne 13, 3), (62, .aload_n 0, 1), (63, .getfield 19, 3), (66, .getfield 373, 3), (69, .iload_n 2, 1), (70, .iaload, 1), (71, .ireturn, 1), (72, .aload_n 0, 1), (73, .getfield 12, 3), (76, .iload 6, 2), (78, .iload 4, 2), (80, .invokevirtual 254, 3), (83, .ifCond .eq 6, 3), (86, .iload 6, 2), (88, .ireturn, 1), (89, .aload_n 0, 1), (90, .getfield 12, 3), (93, .aload_n 0, 1), (94, .getfield 12, 3), (97, .getfield 376, 3), (100, .iload 6, 2), (102, .iaload, 1), (103, .iload 4, 2), (105, .invokevirtual 254, 3), (108, .ifCond .eq 14, 3), (111, .aload_n 0, 1), (112, .getfield 12, 3), (115, .getfield 376, 3), (118, .iload 6, 2), (120, .iaload, 1), (121, .ireturn, 1), (122, .aload_n 0, 1), (123, .getfield 12, 3), (126, .aload_n 0, 1), (127, .getfield 12, 3), (130, .getfield 370, 3), (133, .iload 6, 2), (135, .iaload, 1), (136, .iload 4, 2), (138, .invokevirtual 254, 3), (141, .ifCond .eq 16, 3), (144, .aload_n 0, 1), (145, .getfield 12, 3), (148, .getfield 370, 3), (151, .iload 6, 2), (153, .iaload, 1), (154, .goto 12, 3), (157, .aload_n 0, 1), (158, .getfield 19, 3), (161, .getfield 373, 3), (164, .iload_n 2, 1), (165, .iaload, 1), (166, .ireturn, 1)]
theorem D_Hall_guardian (i : Nat) {pc len : Nat} {ins : Instr} (hi : tb_Hall_guardian[i]? = some (pc, ins, len)) : decode M_Hall_guardian.2.1 pc = .ok (ins, len) := dec_of (by decide +kernel) i hi
def f_Hall_guardian (G : GS) (a1 : Int) (a2 : Int) (a3 : Int) : Option (Int) :=
  gd (0 ≤ a1 ∧ a1 < 32) <|
  (f_Hall_lawAt G (gi G 7 a1.toNat)).bind fun q1 =>
  gd (0 ≤ a2 ∧ a2 < 12) <|
  gd (0 ≤ gi G 11 a2.toNat ∧ gi G 11 a2.toNat < 3) <|
  gd (0 ≤ a3 ∧ a3 < 32) <|
  if gi G (q1 + 4) (gi G 11 a2.toNat).toNat = 1 then
    some (-1)
  else
    if gi G (q1 + 4) (gi G 11 a2.toNat).toNat = 0 then
      gd (0 ≤ a2 ∧ a2 < 12) <|
      some (gi G 12 a2.toNat)
    else
      if gi G 4 a3.toNat = (-1) then
        gd (0 ≤ a2 ∧ a2 < 12) <|
        some (gi G 12 a2.toNat)
      else
        (f_People_isAlive G (gi G 4 a3.toNat) (gi G 7 a1.toNat)).bind fun q2 =>
        if q2 = 0 then
          gd (0 ≤ gi G 4 a3.toNat ∧ gi G 4 a3.toNat < 32) <|
          (f_People_isAlive G (gi G 3 (gi G 4 a3.toNat).toNat) (gi G 7 a1.toNat)).bind fun q3 =>
          if q3 = 0 then
            gd (0 ≤ gi G 4 a3.toNat ∧ gi G 4 a3.toNat < 32) <|
            (f_People_isAlive G (gi G 4 (gi G 4 a3.toNat).toNat) (gi G 7 a1.toNat)).bind fun q4 =>
            if q4 = 0 then
              gd (0 ≤ a2 ∧ a2 < 12) <|
              some (gi G 12 a2.toNat)
            else
              gd (0 ≤ gi G 4 a3.toNat ∧ gi G 4 a3.toNat < 32) <|
              some (gi G 4 (gi G 4 a3.toNat).toNat)
          else
            gd (0 ≤ gi G 4 a3.toNat ∧ gi G 4 a3.toNat < 32) <|
            some (gi G 3 (gi G 4 a3.toNat).toNat)
        else
          some (gi G 4 a3.toNat)
theorem c_Hall_guardian {X : XT} {G : GS} {a1 : Int} {a2 : Int} {a3 : Int} {r : Int} (ha1 : wr a1 = a1) (ha2 : wr a2 = a2) (ha3 : wr a3 = a3) (h : f_Hall_guardian G a1 a2 a3 = some r) : Call X true 8 0 0 M_Hall_guardian [rf X 0, vi a1, vi a2, vi a3] NC G (Ri r G) := by
  refine Call_of_J cw_Hall_guardian (by decide +kernel) (Nat.le_of_ble_eq_true rfl) ?_
  unfold f_Hall_guardian at h
  show J X true 8 0 0 M_Hall_guardian (Ri r G) NC 0 0 0 [(0, rf X 0), (1, vi a1), (2, vi a2), (3, vi a3)] [] G
  refine j_aloadn (k := 0) (D_Hall_guardian 0 rfl) rfl rfl ?_
  refine j_getR rfl fa_Hall_12 kd_0 lc_0 (by decide) rfl fx_0_0 (by decide) (D_Hall_guardian 1 rfl) ?_
  refine j_getR rfl fa_Hall_131 kd_1 lc_1 (by decide) rfl fx_1_5 (by decide) (D_Hall_guardian 2 rfl) ?_
  refine j_iloadn (k := 1) (D_Hall_guardian 3 rfl) rfl rfl ?_
  have g1 := gd_c h
  replace h := gd_s h
  refine j_iald (NI := 32) (D_Hall_guardian 4 rfl) kd_7 lc_7 (ha1) rfl g1.1 g1.2 ?_
  refine j_istore (L' := [(4, vi (gi G 7 a1.toNat)), (0, rf X 0), (1, vi a1), (2, vi a2), (3, vi a3)]) (D_Hall_guardian 5 rfl) (wr_gi _ _ _) (by decide) rfl ?_
  refine j_aloadn (k := 1) (D_Hall_guardian 6 rfl) rfl rfl ?_
  refine j_iload (k := 0) (D_Hall_guardian 7 rfl) rfl ?_
  obtain ⟨q1, e1, h⟩ := Option.bind_eq_some_iff.mp h
  refine j_cVr (c_Hall_lawAt (wr_gi _ _ _) e1) rfl lk_Hall_185 mok_Hall_lawAt kd_0 lc_0 rfl (by decide) rfl rfl (Nat.le_of_ble_eq_true rfl) (D_Hall_guardian 8 rfl) (fun w1 => ?_)
  refine j_getR rfl fa_Hall_367 (law_kd w1).1 (law_kd w1).2.1 (by decide) rfl (fun w => law_fx4 w w1) (by omega) (D_Hall_guardian 9 rfl) ?_
  refine j_aloadn (k := 1) (D_Hall_guardian 10 rfl) rfl rfl ?_
  refine j_getR rfl fa_Hall_19 kd_0 lc_0 (by decide) rfl fx_0_1 (by decide) (D_Hall_guardian 11 rfl) ?_
  refine j_getR rfl fa_Hall_358 kd_9 lc_9 (by decide) rfl fx_9_1 (by decide) (D_Hall_guardian 12 rfl) ?_
  refine j_iloadn (k := 3) (D_Hall_guardian 13 rfl) rfl rfl ?_
  have g2 := gd_c h
  replace h := gd_s h
  refine j_iald (NI := 12) (D_Hall_guardian 14 rfl) kd_11 lc_11 (ha2) rfl g2.1 g2.2 ?_
  have g3 := gd_c h
  replace h := gd_s h
  refine j_iald (NI := 3) (D_Hall_guardian 15 rfl) (law_kd4 w1).1 (law_kd4 w1).2 (wr_gi _ _ _) rfl g3.1 g3.2 ?_
  refine j_istore (L' := [(5, vi (gi G (q1 + 4) (gi G 11 a2.toNat).toNat)), (4, vi (gi G 7 a1.toNat)), (0, rf X 0), (1, vi a1), (2, vi a2), (3, vi a3)]) (D_Hall_guardian 16 rfl) (wr_gi _ _ _) (by decide) rfl ?_
  refine j_aloadn (k := 2) (D_Hall_guardian 17 rfl) rfl rfl ?_
  refine j_getR rfl fa_Hall_12 kd_0 lc_0 (by decide) rfl fx_0_0 (by decide) (D_Hall_guardian 18 rfl) ?_
  refine j_getR rfl fa_Hall_370 kd_1 lc_1 (by decide) rfl fx_1_2 (by decide) (D_Hall_guardian 19 rfl) ?_
  refine j_iloadn (k := 5) (D_Hall_guardian 20 rfl) rfl rfl ?_
  have g4 := gd_c h
  replace h := gd_s h
  refine j_iald (NI := 32) (D_Hall_guardian 21 rfl) kd_4 lc_4 (ha3) rfl g4.1 g4.2 ?_
  refine j_istore (L' := [(6, vi (gi G 4 a3.toNat)), (5, vi (gi G (q1 + 4) (gi G 11 a2.toNat).toNat)), (4, vi (gi G 7 a1.toNat)), (0, rf X 0), (1, vi a1), (2, vi a2), (3, vi a3)]) (D_Hall_guardian 22 rfl) (wr_gi _ _ _) (by decide) rfl ?_
  refine j_iload (k := 1) (D_Hall_guardian 23 rfl) rfl ?_
  refine j_iconst (v := 1) (D_Hall_guardian 24 rfl) rfl ?_
  refine j_ic_ne (tgt := 51) (D_Hall_guardian 25 rfl) rfl (wr_gi _ _ _) (wr_lit rfl) (fun c1 => ?_) (fun c1 => ?_)
  · replace h := ite_f h c1
    refine j_iload (k := 1) (D_Hall_guardian 28 rfl) rfl ?_
    refine j_if_eq (tgt := 62) (D_Hall_guardian 29 rfl) rfl (wr_gi _ _ _) (fun c2 => ?_) (fun c2 => ?_)
    · replace h := ite_t h c2
      refine j_aloadn (k := 3) (D_Hall_guardian 33 rfl) rfl rfl ?_
      refine j_getR rfl fa_Hall_19 kd_0 lc_0 (by decide) rfl fx_0_1 (by decide) (D_Hall_guardian 34 rfl) ?_
      refine j_getR rfl fa_Hall_373 kd_9 lc_9 (by decide) rfl fx_9_2 (by decide) (D_Hall_guardian 35 rfl) ?_
      refine j_iloadn (k := 5) (D_Hall_guardian 36 rfl) rfl rfl ?_
      have g5 := gd_c h
      replace h := gd_s h
      refine j_iald (NI := 12) (D_Hall_guardian 37 rfl) kd_12 lc_12 (ha2) rfl g5.1 g5.2 ?_
      exact j_iret (D_Hall_guardian 38 rfl) rfl (wr_gi _ _ _) rfl rfl (leafIo h (wr_n (wr_gi _ _ _)))
    · replace h := ite_f h c2
      refine j_iload (k := 0) (D_Hall_guardian 30 rfl) rfl ?_
      refine j_iconst (v := (-1)) (D_Hall_guardian 31 rfl) rfl ?_
      refine j_ic_ne (tgt := 72) (D_Hall_guardian 32 rfl) rfl (wr_gi _ _ _) (wr_lit rfl) (fun c3 => ?_) (fun c3 => ?_)
      · replace h := ite_f h c3
        refine j_aloadn (k := 3) (D_Hall_guardian 39 rfl) rfl rfl ?_
        refine j_getR rfl fa_Hall_12 kd_0 lc_0 (by decide) rfl fx_0_0 (by decide) (D_Hall_guardian 40 rfl) ?_
        refine j_iload (k := 0) (D_Hall_guardian 41 rfl) rfl ?_
        refine j_iload (k := 2) (D_Hall_guardian 42 rfl) rfl ?_
        obtain ⟨q2, e2, h⟩ := Option.bind_eq_some_iff.mp h
        refine j_cVz (c_People_isAlive (wr_gi _ _ _) (wr_gi _ _ _) e2) rfl lk_Hall_254 mok_People_isAlive kd_1 lc_1 rfl (by decide) rfl rfl (Nat.le_of_ble_eq_true rfl) (D_Hall_guardian 43 rfl) (fun w2 bw2 => ?_)
        refine j_if_eq (tgt := 89) (D_Hall_guardian 44 rfl) rfl (w2) (fun c4 => ?_) (fun c4 => ?_)
        · replace h := ite_t h c4
          refine j_aloadn (k := 3) (D_Hall_guardian 47 rfl) rfl rfl ?_
          refine j_getR rfl fa_Hall_12 kd_0 lc_0 (by decide) rfl fx_0_0 (by decide) (D_Hall_guardian 48 rfl) ?_
          refine j_aloadn (k := 3) (D_Hall_guardian 49 rfl) rfl rfl ?_
          refine j_getR rfl fa_Hall_12 kd_0 lc_0 (by decide) rfl fx_0_0 (by decide) (D_Hall_guardian 50 rfl) ?_
          refine j_getR rfl fa_Hall_376 kd_1 lc_1 (by decide) rfl fx_1_1 (by decide) (D_Hall_guardian 51 rfl) ?_
          refine j_iload (k := 0) (D_Hall_guardian 52 rfl) rfl ?_
          have g6 := gd_c h
          replace h := gd_s h
          refine j_iald (NI := 32) (D_Hall_guardian 53 rfl) kd_3 lc_3 (wr_gi _ _ _) rfl g6.1 g6.2 ?_
          refine j_iload (k := 2) (D_Hall_guardian 54 rfl) rfl ?_
          obtain ⟨q3, e3, h⟩ := Option.bind_eq_some_iff.mp h
          refine j_cVz (c_People_isAlive (wr_gi _ _ _) (wr_gi _ _ _) e3) rfl lk_Hall_254 mok_People_isAlive kd_1 lc_1 rfl (by decide) rfl rfl (Nat.le_of_ble_eq_true rfl) (D_Hall_guardian 55 rfl) (fun w3 bw3 => ?_)
          refine j_if_eq (tgt := 122) (D_Hall_guardian 56 rfl) rfl (w3) (fun c5 => ?_) (fun c5 => ?_)
          · replace h := ite_t h c5
            refine j_aloadn (k := 3) (D_Hall_guardian 63 rfl) rfl rfl ?_
            refine j_getR rfl fa_Hall_12 kd_0 lc_0 (by decide) rfl fx_0_0 (by decide) (D_Hall_guardian 64 rfl) ?_
            refine j_aloadn (k := 3) (D_Hall_guardian 65 rfl) rfl rfl ?_
            refine j_getR rfl fa_Hall_12 kd_0 lc_0 (by decide) rfl fx_0_0 (by decide) (D_Hall_guardian 66 rfl) ?_
            refine j_getR rfl fa_Hall_370 kd_1 lc_1 (by decide) rfl fx_1_2 (by decide) (D_Hall_guardian 67 rfl) ?_
            refine j_iload (k := 0) (D_Hall_guardian 68 rfl) rfl ?_
            have g7 := gd_c h
            replace h := gd_s h
            refine j_iald (NI := 32) (D_Hall_guardian 69 rfl) kd_4 lc_4 (wr_gi _ _ _) rfl g7.1 g7.2 ?_
            refine j_iload (k := 2) (D_Hall_guardian 70 rfl) rfl ?_
            obtain ⟨q4, e4, h⟩ := Option.bind_eq_some_iff.mp h
            refine j_cVz (c_People_isAlive (wr_gi _ _ _) (wr_gi _ _ _) e4) rfl lk_Hall_254 mok_People_isAlive kd_1 lc_1 rfl (by decide) rfl rfl (Nat.le_of_ble_eq_true rfl) (D_Hall_guardian 71 rfl) (fun w4 bw4 => ?_)
            refine j_if_eq (tgt := 157) (D_Hall_guardian 72 rfl) rfl (w4) (fun c6 => ?_) (fun c6 => ?_)
            · replace h := ite_t h c6
              refine j_aloadn (k := 3) (D_Hall_guardian 79 rfl) rfl rfl ?_
              refine j_getR rfl fa_Hall_19 kd_0 lc_0 (by decide) rfl fx_0_1 (by decide) (D_Hall_guardian 80 rfl) ?_
              refine j_getR rfl fa_Hall_373 kd_9 lc_9 (by decide) rfl fx_9_2 (by decide) (D_Hall_guardian 81 rfl) ?_
              refine j_iloadn (k := 5) (D_Hall_guardian 82 rfl) rfl rfl ?_
              have g8 := gd_c h
              replace h := gd_s h
              refine j_iald (NI := 12) (D_Hall_guardian 83 rfl) kd_12 lc_12 (ha2) rfl g8.1 g8.2 ?_
              exact j_iret (D_Hall_guardian 84 rfl) rfl (wr_gi _ _ _) rfl rfl (leafIo h (wr_n (wr_gi _ _ _)))
            · replace h := ite_f h c6
              refine j_aloadn (k := 3) (D_Hall_guardian 73 rfl) rfl rfl ?_
              refine j_getR rfl fa_Hall_12 kd_0 lc_0 (by decide) rfl fx_0_0 (by decide) (D_Hall_guardian 74 rfl) ?_
              refine j_getR rfl fa_Hall_370 kd_1 lc_1 (by decide) rfl fx_1_2 (by decide) (D_Hall_guardian 75 rfl) ?_
              refine j_iload (k := 0) (D_Hall_guardian 76 rfl) rfl ?_
              have g9 := gd_c h
              replace h := gd_s h
              refine j_iald (NI := 32) (D_Hall_guardian 77 rfl) kd_4 lc_4 (wr_gi _ _ _) rfl g9.1 g9.2 ?_
              refine j_goto (tgt := 166) (D_Hall_guardian 78 rfl) rfl ?_
              exact j_iret (D_Hall_guardian 84 rfl) rfl (wr_gi _ _ _) rfl rfl (leafIo h (wr_n (wr_gi _ _ _)))
          · replace h := ite_f h c5
            refine j_aloadn (k := 3) (D_Hall_guardian 57 rfl) rfl rfl ?_
            refine j_getR rfl fa_Hall_12 kd_0 lc_0 (by decide) rfl fx_0_0 (by decide) (D_Hall_guardian 58 rfl) ?_
            refine j_getR rfl fa_Hall_376 kd_1 lc_1 (by decide) rfl fx_1_1 (by decide) (D_Hall_guardian 59 rfl) ?_
            refine j_iload (k := 0) (D_Hall_guardian 60 rfl) rfl ?_
            have g10 := gd_c h
            replace h := gd_s h
            refine j_iald (NI := 32) (D_Hall_guardian 61 rfl) kd_3 lc_3 (wr_gi _ _ _) rfl g10.1 g10.2 ?_
            exact j_iret (D_Hall_guardian 62 rfl) rfl (wr_gi _ _ _) rfl rfl (leafIo h (wr_n (wr_gi _ _ _)))
        · replace h := ite_f h c4
          refine j_iload (k := 0) (D_Hall_guardian 45 rfl) rfl ?_
          exact j_iret (D_Hall_guardian 46 rfl) rfl (wr_gi _ _ _) rfl rfl (leafIo h (wr_n (wr_gi _ _ _)))
      · replace h := ite_t h c3
        refine j_aloadn (k := 3) (D_Hall_guardian 33 rfl) rfl rfl ?_
        refine j_getR rfl fa_Hall_19 kd_0 lc_0 (by decide) rfl fx_0_1 (by decide) (D_Hall_guardian 34 rfl) ?_
        refine j_getR rfl fa_Hall_373 kd_9 lc_9 (by decide) rfl fx_9_2 (by decide) (D_Hall_guardian 35 rfl) ?_
        refine j_iloadn (k := 5) (D_Hall_guardian 36 rfl) rfl rfl ?_
        have g11 := gd_c h
        replace h := gd_s h
        refine j_iald (NI := 12) (D_Hall_guardian 37 rfl) kd_12 lc_12 (ha2) rfl g11.1 g11.2 ?_
        exact j_iret (D_Hall_guardian 38 rfl) rfl (wr_gi _ _ _) rfl rfl (leafIo h (wr_n (wr_gi _ _ _)))
  · replace h := ite_t h c1
    refine j_iconst (v := (-1)) (D_Hall_guardian 26 rfl) rfl ?_
    exact j_iret (D_Hall_guardian 27 rfl) rfl (wr_lit rfl) rfl rfl (leafIo h (wr_n (wr_lit rfl)))
abbrev M_Hall_profit : MI := (⟨"InquestHall", "profit", "(III)J"⟩, prog_1_method_44_code, 8, (some .long))
theorem cw_Hall_profit : Cond.code M_Hall_profit.1 M_Hall_profit.2.1 M_Hall_profit.2.2.1 M_Hall_profit.2.2.2 ∈ TS := mTS (List.mem_of_getElem? (i := 1091) (by decide +kernel)) (by decide +kernel)
theorem ct_Hall_382 : Cond.constantLong "InquestHall" 382 (360 : Int64) ∈ TS := mTS (List.mem_of_getElem? (i := 1092) (by decide +kernel)) (by decide +kernel)
def tb_Hall_profit : List (Nat × Instr × Nat) := [(0, .aload_n 0, 1), (1, .getfield 60, 3), (4, .iload_n 3, 1), (5, .iconst 0, 1), (6, .invokevirtual 205, 3), (9, .aload_n 0, 1), (10, .getfield 12, 3), (13, .getfield 128, 3), (16, .iload_n 3, 1), (17, .iaload, 1), (18, .aload_n 0, 1), (19, .iload_n 1, 1), (20, .iload_n 2, 1), (21, .iload_n 3, 1), (22, .invokevirtual 225, 3), (25, .iadd, 1), (26, .aload_n 0, 1), (27, .getfield 12, 3), (30, .getfield 131, 3), (33, .iload_n 1, 1), (34, .iaload, 1), (35, .isub, 1), (36, .i2l, 1), (37, .lstore 4, 2), (39, .lconst 1, 1), (40, .aload_n 0, 1), (41, .getfield 60, 3), (44, .invokevirtual 213, 3), (47, .invokestatic 379, 3), (50, .ldc2_w 382, 3), (53, .lmul, 1), (54, .lstore 6, 2), (56, .aload_n 0, 1), (57, .getfield 19, 3), (60, .iload_n 2, 1), (61, .invokevirtual 260, 3), (64, .i2l, 1), (65, .aload_n 0, 1), (66, .getfield 60, 3), (69, .invokevirtual 209, 3), (72, .lmul, 1), (73, .lload 4, 2), (75, .lmul, 1), (76, .lload 6, 2), (78, .ldiv, 1), (79, .lreturn, 1)]
theorem D_Hall_profit (i : Nat) {pc len : Nat} {ins : Instr} (hi : tb_Hall_profit[i]? = some (pc, ins, len)) : decode M_Hall_profit.2.1 pc = .ok (ins, len) := dec_of (by decide +kernel) i hi
def f_Hall_profit (G : GS) (a1 : Int) (a2 : Int) (a3 : Int) : Option (Int × GS) :=
  (f_Descent_part G a3 0).bind fun q1 =>
  gd (0 ≤ a3 ∧ a3 < 32) <|
  (f_Hall_wardDays q1 a1 a2 a3).bind fun q2 =>
  gd (0 ≤ a1 ∧ a1 < 32) <|
  (f_Descent_partBelow q1).bind fun q3 =>
  (f_Lands_worthOf q1 a2).bind fun q4 =>
  (f_Descent_partAbove q1).bind fun q5 =>
  gd (¬ wl ((max 1 q3) * 360) = 0) <|
  some (ldv ((q4 * q5) * (wl (wr (((gi q1 5 a3.toNat) + q2) - (gi q1 7 a1.toNat))))) (wl ((max 1 q3) * 360)), q1)
theorem c_Hall_profit {X : XT} {G : GS} {a1 : Int} {a2 : Int} {a3 : Int} {r : Int × GS} (ha1 : wr a1 = a1) (ha2 : wr a2 = a2) (ha3 : wr a3 = a3) (h : f_Hall_profit G a1 a2 a3 = some r) : Call X true 14 0 0 M_Hall_profit [rf X 0, vi a1, vi a2, vi a3] NC G (Rl r.1 r.2) := by
  refine Call_of_J cw_Hall_profit (by decide +kernel) (Nat.le_of_ble_eq_true rfl) ?_
  unfold f_Hall_profit at h
  show J X true 14 0 0 M_Hall_profit (Rl r.1 r.2) NC 0 0 0 [(0, rf X 0), (1, vi a1), (2, vi a2), (3, vi a3)] [] G
  refine j_aloadn (k := 0) (D_Hall_profit 0 rfl) rfl rfl ?_
  refine j_getR rfl fa_Hall_60 kd_0 lc_0 (by decide) rfl fx_0_6 (by decide) (D_Hall_profit 1 rfl) ?_
  refine j_iloadn (k := 3) (D_Hall_profit 2 rfl) rfl rfl ?_
  refine j_iconst (v := 0) (D_Hall_profit 3 rfl) rfl ?_
  obtain ⟨q1, e1, h⟩ := Option.bind_eq_some_iff.mp h
  refine j_cVv (c_Descent_part (ha3) (wr_lit rfl) e1) rfl lk_Hall_205 mok_Descent_part kd_30 lc_30 rfl (by decide) rfl rfl (Nat.le_of_ble_eq_true rfl) (D_Hall_profit 4 rfl) ?_
  refine j_aloadn (k := 0) (D_Hall_profit 5 rfl) rfl rfl ?_
  refine j_getR rfl fa_Hall_12 kd_0 lc_0 (by decide) rfl fx_0_0 (by decide) (D_Hall_profit 6 rfl) ?_
  refine j_getR rfl fa_Hall_128 kd_1 lc_1 (by decide) rfl fx_1_3 (by decide) (D_Hall_profit 7 rfl) ?_
  refine j_iloadn (k := 3) (D_Hall_profit 8 rfl) rfl rfl ?_
  have g1 := gd_c h
  replace h := gd_s h
  refine j_iald (NI := 32) (D_Hall_profit 9 rfl) kd_5 lc_5 (ha3) rfl g1.1 g1.2 ?_
  refine j_aloadn (k := 0) (D_Hall_profit 10 rfl) rfl rfl ?_
  refine j_iloadn (k := 1) (D_Hall_profit 11 rfl) rfl rfl ?_
  refine j_iloadn (k := 2) (D_Hall_profit 12 rfl) rfl rfl ?_
  refine j_iloadn (k := 3) (D_Hall_profit 13 rfl) rfl rfl ?_
  obtain ⟨q2, e2, h⟩ := Option.bind_eq_some_iff.mp h
  refine j_cVi (c_Hall_wardDays (ha1) (ha2) (ha3) e2) rfl lk_Hall_225 mok_Hall_wardDays kd_0 lc_0 rfl (by decide) rfl rfl (Nat.le_of_ble_eq_true rfl) (D_Hall_profit 14 rfl) (fun w1 => ?_)
  refine j_iadd (D_Hall_profit 15 rfl) ?_
  refine j_aloadn (k := 0) (D_Hall_profit 16 rfl) rfl rfl ?_
  refine j_getR rfl fa_Hall_12 kd_0 lc_0 (by decide) rfl fx_0_0 (by decide) (D_Hall_profit 17 rfl) ?_
  refine j_getR rfl fa_Hall_131 kd_1 lc_1 (by decide) rfl fx_1_5 (by decide) (D_Hall_profit 18 rfl) ?_
  refine j_iloadn (k := 1) (D_Hall_profit 19 rfl) rfl rfl ?_
  have g2 := gd_c h
  replace h := gd_s h
  refine j_iald (NI := 32) (D_Hall_profit 20 rfl) kd_7 lc_7 (ha1) rfl g2.1 g2.2 ?_
  refine j_isub (D_Hall_profit 21 rfl) ?_
  refine j_i2l (D_Hall_profit 22 rfl) (rfl) ?_
  refine j_lstore (L' := [(4, vl (wl (wr (((gi q1 5 a3.toNat) + q2) - (gi q1 7 a1.toNat))))), (0, rf X 0), (1, vi a1), (2, vi a2), (3, vi a3)]) (D_Hall_profit 23 rfl) (rfl) (by decide) rfl ?_
  refine j_lconst (v := 1) (D_Hall_profit 24 rfl) rfl ?_
  refine j_aloadn (k := 1) (D_Hall_profit 25 rfl) rfl rfl ?_
  refine j_getR rfl fa_Hall_60 kd_0 lc_0 (by decide) rfl fx_0_6 (by decide) (D_Hall_profit 26 rfl) ?_
  obtain ⟨q3, e3, h⟩ := Option.bind_eq_some_iff.mp h
  refine j_cVl (c_Descent_partBelow e3) rfl lk_Hall_213 mok_Descent_partBelow kd_30 lc_30 rfl (by decide) rfl rfl (Nat.le_of_ble_eq_true rfl) (D_Hall_profit 27 rfl) (fun w2 => ?_)
  refine j_mmaxl (wl_lit rfl) (w2) rfl lk_Hall_379 (by decide) (Nat.le_of_ble_eq_true rfl) (D_Hall_profit 28 rfl) ?_
  refine j_ldc2 (v := 360) rfl ct_Hall_382 (by decide) (D_Hall_profit 29 rfl) ?_
  refine j_lmul (D_Hall_profit 30 rfl) ?_
  refine j_lstore (L' := [(6, vl (wl ((max 1 q3) * 360))), (4, vl (wl (wr (((gi q1 5 a3.toNat) + q2) - (gi q1 7 a1.toNat))))), (0, rf X 0), (1, vi a1), (2, vi a2), (3, vi a3)]) (D_Hall_profit 31 rfl) (rfl) (by decide) rfl ?_
  refine j_aloadn (k := 2) (D_Hall_profit 32 rfl) rfl rfl ?_
  refine j_getR rfl fa_Hall_19 kd_0 lc_0 (by decide) rfl fx_0_1 (by decide) (D_Hall_profit 33 rfl) ?_
  refine j_iloadn (k := 4) (D_Hall_profit 34 rfl) rfl rfl ?_
  obtain ⟨q4, e4, h⟩ := Option.bind_eq_some_iff.mp h
  refine j_cVi (c_Lands_worthOf (ha2) e4) rfl lk_Hall_260 mok_Lands_worthOf kd_9 lc_9 rfl (by decide) rfl rfl (Nat.le_of_ble_eq_true rfl) (D_Hall_profit 35 rfl) (fun w3 => ?_)
  refine j_i2l (D_Hall_profit 36 rfl) (w3) ?_
  refine j_aloadn (k := 2) (D_Hall_profit 37 rfl) rfl rfl ?_
  refine j_getR rfl fa_Hall_60 kd_0 lc_0 (by decide) rfl fx_0_6 (by decide) (D_Hall_profit 38 rfl) ?_
  obtain ⟨q5, e5, h⟩ := Option.bind_eq_some_iff.mp h
  refine j_cVl (c_Descent_partAbove e5) rfl lk_Hall_209 mok_Descent_partAbove kd_30 lc_30 rfl (by decide) rfl rfl (Nat.le_of_ble_eq_true rfl) (D_Hall_profit 39 rfl) (fun w4 => ?_)
  refine j_lmul (D_Hall_profit 40 rfl) ?_
  refine j_lload (k := 1) (D_Hall_profit 41 rfl) rfl ?_
  refine j_lmul (D_Hall_profit 42 rfl) ?_
  refine j_lload (k := 0) (D_Hall_profit 43 rfl) rfl ?_
  have g3 := gd_c h
  replace h := gd_s h
  refine j_ldiv (D_Hall_profit 44 rfl) (wl_wl _) g3 ?_
  exact j_lret (D_Hall_profit 45 rfl) rfl (wl_ldv _ _) rfl rfl (leafL h (wl_n (wl_ldv _ _)))
abbrev M_Hall_ward : MI := (⟨"InquestHall", "ward", "(IIII)J"⟩, prog_1_method_19_code, 6, (some .long))
theorem cw_Hall_ward : Cond.code M_Hall_ward.1 M_Hall_ward.2.1 M_Hall_ward.2.2.1 M_Hall_ward.2.2.2 ∈ TS := mTS (List.mem_of_getElem? (i := 1022) (by decide +kernel)) (by decide +kernel)
theorem ct_Hall_220 : Cond.constantLong "InquestHall" 220 (-2 : Int64) ∈ TS := mTS (List.mem_of_getElem? (i := 1027) (by decide +kernel)) (by decide +kernel)
theorem lk_Hall_216 : Cond.methodLink "InquestHall" 216 M_Hall_isHeir.1 ∈ TS := mTS (List.mem_of_getElem? (i := 1023) (by decide +kernel)) (by decide +kernel)
theorem mok_Hall_isHeir : MOK M_Hall_isHeir 3 := ⟨mTS (List.mem_of_getElem? (i := 1025) (by decide +kernel)) (by decide +kernel), mTS (List.mem_of_getElem? (i := 35) (by decide +kernel)) (by decide +kernel), mTS (List.mem_of_getElem? (i := 122) (by decide +kernel)) (by decide +kernel), cw_Hall_isHeir, ⟨by decide, by decide, by decide +kernel⟩, by decide +kernel, by decide⟩
theorem lk_Hall_222 : Cond.methodLink "InquestHall" 222 M_Hall_isOfAge.1 ∈ TS := mTS (List.mem_of_getElem? (i := 1028) (by decide +kernel)) (by decide +kernel)
theorem mok_Hall_isOfAge : MOK M_Hall_isOfAge 3 := ⟨mTS (List.mem_of_getElem? (i := 1030) (by decide +kernel)) (by decide +kernel), mTS (List.mem_of_getElem? (i := 36) (by decide +kernel)) (by decide +kernel), mTS (List.mem_of_getElem? (i := 122) (by decide +kernel)) (by decide +kernel), cw_Hall_isOfAge, ⟨by decide, by decide, by decide +kernel⟩, by decide +kernel, by decide⟩
theorem lk_Hall_228 : Cond.methodLink "InquestHall" 228 M_Hall_isKingsRight.1 ∈ TS := mTS (List.mem_of_getElem? (i := 1036) (by decide +kernel)) (by decide +kernel)
theorem mok_Hall_isKingsRight : MOK M_Hall_isKingsRight 2 := ⟨mTS (List.mem_of_getElem? (i := 1038) (by decide +kernel)) (by decide +kernel), mTS (List.mem_of_getElem? (i := 38) (by decide +kernel)) (by decide +kernel), mTS (List.mem_of_getElem? (i := 122) (by decide +kernel)) (by decide +kernel), cw_Hall_isKingsRight, ⟨by decide, by decide, by decide +kernel⟩, by decide +kernel, by decide⟩
theorem lk_Hall_231 : Cond.methodLink "InquestHall" 231 M_Hall_guardian.1 ∈ TS := mTS (List.mem_of_getElem? (i := 1083) (by decide +kernel)) (by decide +kernel)
theorem mok_Hall_guardian : MOK M_Hall_guardian 3 := ⟨mTS (List.mem_of_getElem? (i := 1085) (by decide +kernel)) (by decide +kernel), mTS (List.mem_of_getElem? (i := 44) (by decide +kernel)) (by decide +kernel), mTS (List.mem_of_getElem? (i := 122) (by decide +kernel)) (by decide +kernel), cw_Hall_guardian, ⟨by decide, by decide, by decide +kernel⟩, by decide +kernel, by decide⟩
theorem lk_Hall_234 : Cond.methodLink "InquestHall" 234 M_Hall_profit.1 ∈ TS := mTS (List.mem_of_getElem? (i := 1088) (by decide +kernel)) (by decide +kernel)
theorem mok_Hall_profit : MOK M_Hall_profit 3 := ⟨mTS (List.mem_of_getElem? (i := 1090) (by decide +kernel)) (by decide +kernel), mTS (List.mem_of_getElem? (i := 45) (by decide +kernel)) (by decide +kernel), mTS (List.mem_of_getElem? (i := 122) (by decide +kernel)) (by decide +kernel), cw_Hall_profit, ⟨by decide, by decide, by decide +kernel⟩, by decide +kernel, by decide⟩
def tb_Hall_ward : List (Nat × Instr × Nat) := [(0, .iload 4, 2), (2, .ifCond .lt 19, 3), (5, .iload 4, 2), (7, .iconst 5, 1), (8, .if_icmp .gt 13, 3), (11, .aload_n 0, 1), (12, .iload_n 1, 1), (13, .iload_n 2, 1), (14, .iload_n 3, 1), (15, .invokevirtual 216, 3), (18, .ifCond .ne 7, 3), (21, .ldc2_w 220, 3), (24, .lreturn, 1), (25, .aload_n 0, 1), (26, .iload_n 1, 1), (27, .iload_n 2, 1), (28, .iload_n 3, 1), (29, .invokevirtual 222, 3), (32, .ifCond .ne 7, 3), (35, .iconst 1, 1), (36, .goto 4, 3), (39, .iconst 0, 1), (40, .istore 5, 2), (42, .iload 4, 2), (44, .ifCond .ne 14, 3), (47, .iload 5, 2), (49, .ifCond .eq 7, 3), (52, .lconst 1, 1), (53, .goto 4, 3), (56, .lconst 0, 1), (57, .lreturn, 1), (58, .iload 5, 2), (60, .ifCond .ne 7, 3), (63, .ldc2_w 220, 3), (66, .lreturn, 1), (67, .iload 4, 2), (69, .tableswitch 101 1 4 #[31, 50, 69, 93], 31), (100, .aload_n 0, 1), (101, .getfield 12, 3), (104, .getfield 128, 3), (107, .iload_n 3, 1), (108, .iaload, 1), (109, .aload_n 0, 1), (110, .iload_n 1, 1), (111, .iload_n 2, 1), (112, .iload_n 3, 1), (113, .invokevirtual 225, 3), (116, .iadd, 1), (117, .i2l, 1), (118, .lreturn, 1), (119, .aload_n 0, 1), (120, .getfield 12, 3), (123, .getfield 144, 3), (126, .iload_n 3, 1), (127, .iaload, 1), (128, .aload_n 0, 1), (129, .iload_n 1, 1), (130, .iload_n 2, 1), (131, .iload_n 3, 1), (132, .invokevirtual 225, 3), (135, .iadd, 1), (136, .i2l, 1), (137, .lreturn, 1), (138, .aload_n 0, 1), (139, .iload_n 1, 1), (140, .iload_n 2, 1), (141, .invokevirtual 228, 3), (144, .ifCond .eq 9, 3), (147, .ldc2_w 203, 3), (150, .goto 11, 3), (153, .aload_n 0, 1), (154, .iload_n 1, 1), (155, .iload_n 2, 1), (156, .iload_n 3, 1), (157, .invokevirtual 231, 3), (160, .i2l, 1), (161, .lreturn, 1), (162, .aload_n 0, 1), (163, .iload_n 1, 1), (164, .iload_n 2, 1), (165, .iload_n 3, 1), (166, .invokevirtual 234, 3), (169, .lreturn, 1), (170, .aload_n 0, 1), (171, .iload_n 1, 1), (172, .iload_n 2, 1), (173, .invokevirtual 228, 3), (176, .ifCond .eq 7, 3), (179, .lconst 1, 1), (180, .goto 4, 3), (183, .lconst 0, 1), (184, .lreturn, 1)]
theorem D_Hall_ward (i : Nat) {pc len : Nat} {ins : Instr} (hi : tb_Hall_ward[i]? = some (pc, ins, len)) : decode M_Hall_ward.2.1 pc = .ok (ins, len) := dec_of (by decide +kernel) i hi
def f_Hall_ward_L40 (G : GS) (x1 : Int) (x2 : Int) (x3 : Int) (x4 : Int) (s0 : Int) : Option (Int × GS) :=
  if x4 = 0 then
    if s0 = 0 then
      some (0, G)
    else
      some (1, G)
  else
    if s0 = 0 then
      some ((-2), G)
    else
      if x4 = 1 then
        gd (0 ≤ x3 ∧ x3 < 32) <|
        (f_Hall_wardDays G x1 x2 x3).bind fun q1 =>
        some (wl (wr ((gi G 5 x3.toNat) + q1)), G)
      else
        if x4 = 2 then
          gd (0 ≤ x3 ∧ x3 < 32) <|
          (f_Hall_wardDays G x1 x2 x3).bind fun q2 =>
          some (wl (wr ((gi G 6 x3.toNat) + q2)), G)
        else
          if x4 = 3 then
            (f_Hall_isKingsRight G x1 x2).bind fun q3 =>
            if q3.1 = 0 then
              (f_Hall_guardian q3.2 x1 x2 x3).bind fun q4 =>
              some (wl q4, q3.2)
            else
              some ((-1), q3.2)
          else
            if x4 = 4 then
              (f_Hall_profit G x1 x2 x3).bind fun q5 =>
              some (q5.1, q5.2)
            else
              (f_Hall_isKingsRight G x1 x2).bind fun q6 =>
              if q6.1 = 0 then
                some (0, q6.2)
              else
                some (1, q6.2)
theorem s_Hall_ward_L40 {X : XT} {r : Int × GS} : ∀ {G : GS} {x1 : Int} {x2 : Int} {x3 : Int} {x4 : Int} {s0 : Int}, wr x1 = x1 → wr x2 = x2 → wr x3 = x3 → wr x4 = x4 → wr s0 = s0 → f_Hall_ward_L40 G x1 x2 x3 x4 s0 = some r → J X true 15 0 0 M_Hall_ward (Rl r.1 r.2) NC 0 0 40 [(0, rf X 0), (1, vi x1), (2, vi x2), (3, vi x3), (4, vi x4)] [vi s0] G := by
  intro G x1 x2 x3 x4 s0 hx1 hx2 hx3 hx4 hs0 h
  unfold f_Hall_ward_L40 at h
  refine j_istore (L' := [(5, vi s0), (0, rf X 0), (1, vi x1), (2, vi x2), (3, vi x3), (4, vi x4)]) (D_Hall_ward 22 rfl) (hs0) (by decide) rfl ?_
  refine j_iload (k := 5) (D_Hall_ward 23 rfl) rfl ?_
  refine j_if_ne (tgt := 58) (D_Hall_ward 24 rfl) rfl (hx4) (fun c1 => ?_) (fun c1 => ?_)
  · replace h := ite_f h c1
    refine j_iload (k := 0) (D_Hall_ward 31 rfl) rfl ?_
    refine j_if_ne (tgt := 67) (D_Hall_ward 32 rfl) rfl (hs0) (fun c2 => ?_) (fun c2 => ?_)
    · replace h := ite_f h c2
      refine j_iload (k := 5) (D_Hall_ward 35 rfl) rfl ?_
      by_cases c3 : x4 = 1
      · replace h := ite_t h c3
        refine j_tIn (tgt := 100) (D_Hall_ward 36 rfl) (hx4) c3 (by decide) (by decide) rfl rfl ?_
        refine j_aloadn (k := 1) (D_Hall_ward 37 rfl) rfl rfl ?_
        refine j_getR rfl fa_Hall_12 kd_0 lc_0 (by decide) rfl fx_0_0 (by decide) (D_Hall_ward 38 rfl) ?_
        refine j_getR rfl fa_Hall_128 kd_1 lc_1 (by decide) rfl fx_1_3 (by decide) (D_Hall_ward 39 rfl) ?_
        refine j_iloadn (k := 4) (D_Hall_ward 40 rfl) rfl rfl ?_
        have g1 := gd_c h
        replace h := gd_s h
        refine j_iald (NI := 32) (D_Hall_ward 41 rfl) kd_5 lc_5 (hx3) rfl g1.1 g1.2 ?_
        refine j_aloadn (k := 1) (D_Hall_ward 42 rfl) rfl rfl ?_
        refine j_iloadn (k := 2) (D_Hall_ward 43 rfl) rfl rfl ?_
        refine j_iloadn (k := 3) (D_Hall_ward 44 rfl) rfl rfl ?_
        refine j_iloadn (k := 4) (D_Hall_ward 45 rfl) rfl rfl ?_
        obtain ⟨q1, e1, h⟩ := Option.bind_eq_some_iff.mp h
        refine j_cVi (c_Hall_wardDays (hx1) (hx2) (hx3) e1) rfl lk_Hall_225 mok_Hall_wardDays kd_0 lc_0 rfl (by decide) rfl rfl (Nat.le_of_ble_eq_true rfl) (D_Hall_ward 46 rfl) (fun w1 => ?_)
        refine j_iadd (D_Hall_ward 47 rfl) ?_
        refine j_i2l (D_Hall_ward 48 rfl) (rfl) ?_
        exact j_lret (D_Hall_ward 49 rfl) rfl (rfl) rfl rfl (leafL h (wl_n (rfl)))
      · replace h := ite_f h c3
        by_cases c4 : x4 = 2
        · replace h := ite_t h c4
          refine j_tIn (tgt := 119) (D_Hall_ward 36 rfl) (hx4) c4 (by decide) (by decide) rfl rfl ?_
          refine j_aloadn (k := 1) (D_Hall_ward 50 rfl) rfl rfl ?_
          refine j_getR rfl fa_Hall_12 kd_0 lc_0 (by decide) rfl fx_0_0 (by decide) (D_Hall_ward 51 rfl) ?_
          refine j_getR rfl fa_Hall_144 kd_1 lc_1 (by decide) rfl fx_1_4 (by decide) (D_Hall_ward 52 rfl) ?_
          refine j_iloadn (k := 4) (D_Hall_ward 53 rfl) rfl rfl ?_
          have g2 := gd_c h
          replace h := gd_s h
          refine j_iald (NI := 32) (D_Hall_ward 54 rfl) kd_6 lc_6 (hx3) rfl g2.1 g2.2 ?_
          refine j_aloadn (k := 1) (D_Hall_ward 55 rfl) rfl rfl ?_
          refine j_iloadn (k := 2) (D_Hall_ward 56 rfl) rfl rfl ?_
          refine j_iloadn (k := 3) (D_Hall_ward 57 rfl) rfl rfl ?_
          refine j_iloadn (k := 4) (D_Hall_ward 58 rfl) rfl rfl ?_
          obtain ⟨q2, e2, h⟩ := Option.bind_eq_some_iff.mp h
          refine j_cVi (c_Hall_wardDays (hx1) (hx2) (hx3) e2) rfl lk_Hall_225 mok_Hall_wardDays kd_0 lc_0 rfl (by decide) rfl rfl (Nat.le_of_ble_eq_true rfl) (D_Hall_ward 59 rfl) (fun w2 => ?_)
          refine j_iadd (D_Hall_ward 60 rfl) ?_
          refine j_i2l (D_Hall_ward 61 rfl) (rfl) ?_
          exact j_lret (D_Hall_ward 62 rfl) rfl (rfl) rfl rfl (leafL h (wl_n (rfl)))
        · replace h := ite_f h c4
          by_cases c5 : x4 = 3
          · replace h := ite_t h c5
            refine j_tIn (tgt := 138) (D_Hall_ward 36 rfl) (hx4) c5 (by decide) (by decide) rfl rfl ?_
            refine j_aloadn (k := 1) (D_Hall_ward 63 rfl) rfl rfl ?_
            refine j_iloadn (k := 2) (D_Hall_ward 64 rfl) rfl rfl ?_
            refine j_iloadn (k := 3) (D_Hall_ward 65 rfl) rfl rfl ?_
            obtain ⟨q3, e3, h⟩ := Option.bind_eq_some_iff.mp h
            refine j_cVz (c_Hall_isKingsRight (hx1) (hx2) e3) rfl lk_Hall_228 mok_Hall_isKingsRight kd_0 lc_0 rfl (by decide) rfl rfl (Nat.le_of_ble_eq_true rfl) (D_Hall_ward 66 rfl) (fun w3 bw3 => ?_)
            refine j_if_eq (tgt := 153) (D_Hall_ward 67 rfl) rfl (w3) (fun c6 => ?_) (fun c6 => ?_)
            · replace h := ite_t h c6
              refine j_aloadn (k := 1) (D_Hall_ward 70 rfl) rfl rfl ?_
              refine j_iloadn (k := 2) (D_Hall_ward 71 rfl) rfl rfl ?_
              refine j_iloadn (k := 3) (D_Hall_ward 72 rfl) rfl rfl ?_
              refine j_iloadn (k := 4) (D_Hall_ward 73 rfl) rfl rfl ?_
              obtain ⟨q4, e4, h⟩ := Option.bind_eq_some_iff.mp h
              refine j_cVi (c_Hall_guardian (hx1) (hx2) (hx3) e4) rfl lk_Hall_231 mok_Hall_guardian kd_0 lc_0 rfl (by decide) rfl rfl (Nat.le_of_ble_eq_true rfl) (D_Hall_ward 74 rfl) (fun w4 => ?_)
              refine j_i2l (D_Hall_ward 75 rfl) (w4) ?_
              exact j_lret (D_Hall_ward 76 rfl) rfl (rfl) rfl rfl (leafL h (wl_n (rfl)))
            · replace h := ite_f h c6
              refine j_ldc2 (v := (-1)) rfl ct_Hall_203 (by decide) (D_Hall_ward 68 rfl) ?_
              refine j_goto (tgt := 161) (D_Hall_ward 69 rfl) rfl ?_
              exact j_lret (D_Hall_ward 76 rfl) rfl (wl_lit rfl) rfl rfl (leafL h (wl_n (wl_lit rfl)))
          · replace h := ite_f h c5
            by_cases c7 : x4 = 4
            · replace h := ite_t h c7
              refine j_tIn (tgt := 162) (D_Hall_ward 36 rfl) (hx4) c7 (by decide) (by decide) rfl rfl ?_
              refine j_aloadn (k := 1) (D_Hall_ward 77 rfl) rfl rfl ?_
              refine j_iloadn (k := 2) (D_Hall_ward 78 rfl) rfl rfl ?_
              refine j_iloadn (k := 3) (D_Hall_ward 79 rfl) rfl rfl ?_
              refine j_iloadn (k := 4) (D_Hall_ward 80 rfl) rfl rfl ?_
              obtain ⟨q5, e5, h⟩ := Option.bind_eq_some_iff.mp h
              refine j_cVl (c_Hall_profit (hx1) (hx2) (hx3) e5) rfl lk_Hall_234 mok_Hall_profit kd_0 lc_0 rfl (by decide) rfl rfl (Nat.le_of_ble_eq_true rfl) (D_Hall_ward 81 rfl) (fun w5 => ?_)
              exact j_lret (D_Hall_ward 82 rfl) rfl (w5) rfl rfl (leafL h (wl_n (w5)))
            · replace h := ite_f h c7
              refine j_tOut (tgt := 170) (D_Hall_ward 36 rfl) (hx4) (by omega) rfl ?_
              refine j_aloadn (k := 1) (D_Hall_ward 83 rfl) rfl rfl ?_
              refine j_iloadn (k := 2) (D_Hall_ward 84 rfl) rfl rfl ?_
              refine j_iloadn (k := 3) (D_Hall_ward 85 rfl) rfl rfl ?_
              obtain ⟨q6, e6, h⟩ := Option.bind_eq_some_iff.mp h
              refine j_cVz (c_Hall_isKingsRight (hx1) (hx2) e6) rfl lk_Hall_228 mok_Hall_isKingsRight kd_0 lc_0 rfl (by decide) rfl rfl (Nat.le_of_ble_eq_true rfl) (D_Hall_ward 86 rfl) (fun w6 bw6 => ?_)
              refine j_if_eq (tgt := 183) (D_Hall_ward 87 rfl) rfl (w6) (fun c8 => ?_) (fun c8 => ?_)
              · replace h := ite_t h c8
                refine j_lconst (v := 0) (D_Hall_ward 90 rfl) rfl ?_
                exact j_lret (D_Hall_ward 91 rfl) rfl (wl_lit rfl) rfl rfl (leafL h (wl_n (wl_lit rfl)))
              · replace h := ite_f h c8
                refine j_lconst (v := 1) (D_Hall_ward 88 rfl) rfl ?_
                refine j_goto (tgt := 184) (D_Hall_ward 89 rfl) rfl ?_
                exact j_lret (D_Hall_ward 91 rfl) rfl (wl_lit rfl) rfl rfl (leafL h (wl_n (wl_lit rfl)))
    · replace h := ite_t h c2
      refine j_ldc2 (v := (-2)) rfl ct_Hall_220 (by decide) (D_Hall_ward 33 rfl) ?_
      exact j_lret (D_Hall_ward 34 rfl) rfl (wl_lit rfl) rfl rfl (leafL h (wl_n (wl_lit rfl)))
  · replace h := ite_t h c1
    refine j_iload (k := 0) (D_Hall_ward 25 rfl) rfl ?_
    refine j_if_eq (tgt := 56) (D_Hall_ward 26 rfl) rfl (hs0) (fun c9 => ?_) (fun c9 => ?_)
    · replace h := ite_t h c9
      refine j_lconst (v := 0) (D_Hall_ward 29 rfl) rfl ?_
      exact j_lret (D_Hall_ward 30 rfl) rfl (wl_lit rfl) rfl rfl (leafL h (wl_n (wl_lit rfl)))
    · replace h := ite_f h c9
      refine j_lconst (v := 1) (D_Hall_ward 27 rfl) rfl ?_
      refine j_goto (tgt := 57) (D_Hall_ward 28 rfl) rfl ?_
      exact j_lret (D_Hall_ward 30 rfl) rfl (wl_lit rfl) rfl rfl (leafL h (wl_n (wl_lit rfl)))
def f_Hall_ward (G : GS) (a1 : Int) (a2 : Int) (a3 : Int) (a4 : Int) : Option (Int × GS) :=
  if a4 < 0 then
    some ((-2), G)
  else
    if 5 < a4 then
      some ((-2), G)
    else
      (f_Hall_isHeir G a1 a2 a3).bind fun q1 =>
      if q1.1 = 0 then
        some ((-2), q1.2)
      else
        (f_Hall_isOfAge q1.2 a1 a2 a3).bind fun q2 =>
        if q2 = 0 then
          f_Hall_ward_L40 q1.2 a1 a2 a3 a4 1
        else
          f_Hall_ward_L40 q1.2 a1 a2 a3 a4 0
theorem c_Hall_ward {X : XT} {G : GS} {a1 : Int} {a2 : Int} {a3 : Int} {a4 : Int} {r : Int × GS} (ha1 : wr a1 = a1) (ha2 : wr a2 = a2) (ha3 : wr a3 = a3) (ha4 : wr a4 = a4) (h : f_Hall_ward G a1 a2 a3 a4 = some r) : Call X true 15 0 0 M_Hall_ward [rf X 0, vi a1, vi a2, vi a3, vi a4] NC G (Rl r.1 r.2) := by
  refine Call_of_J cw_Hall_ward (by decide +kernel) (Nat.le_of_ble_eq_true rfl) ?_
  unfold f_Hall_ward at h
  show J X true 15 0 0 M_Hall_ward (Rl r.1 r.2) NC 0 0 0 [(0, rf X 0), (1, vi a1), (2, vi a2), (3, vi a3), (4, vi a4)] [] G
  refine j_iload (k := 4) (D_Hall_ward 0 rfl) rfl ?_
  refine j_if_lt (tgt := 21) (D_Hall_ward 1 rfl) rfl (ha4) (fun c1 => ?_) (fun c1 => ?_)
  · replace h := ite_t h c1
    refine j_ldc2 (v := (-2)) rfl ct_Hall_220 (by decide) (D_Hall_ward 11 rfl) ?_
    exact j_lret (D_Hall_ward 12 rfl) rfl (wl_lit rfl) rfl rfl (leafL h (wl_n (wl_lit rfl)))
  · replace h := ite_f h c1
    refine j_iload (k := 4) (D_Hall_ward 2 rfl) rfl ?_
    refine j_iconst (v := 5) (D_Hall_ward 3 rfl) rfl ?_
    refine j_ic_gt (tgt := 21) (D_Hall_ward 4 rfl) rfl (ha4) (wr_lit rfl) (fun c2 => ?_) (fun c2 => ?_)
    · replace h := ite_t h c2
      refine j_ldc2 (v := (-2)) rfl ct_Hall_220 (by decide) (D_Hall_ward 11 rfl) ?_
      exact j_lret (D_Hall_ward 12 rfl) rfl (wl_lit rfl) rfl rfl (leafL h (wl_n (wl_lit rfl)))
    · replace h := ite_f h c2
      refine j_aloadn (k := 0) (D_Hall_ward 5 rfl) rfl rfl ?_
      refine j_iloadn (k := 1) (D_Hall_ward 6 rfl) rfl rfl ?_
      refine j_iloadn (k := 2) (D_Hall_ward 7 rfl) rfl rfl ?_
      refine j_iloadn (k := 3) (D_Hall_ward 8 rfl) rfl rfl ?_
      obtain ⟨q1, e1, h⟩ := Option.bind_eq_some_iff.mp h
      refine j_cVz (c_Hall_isHeir (ha1) (ha2) (ha3) e1) rfl lk_Hall_216 mok_Hall_isHeir kd_0 lc_0 rfl (by decide) rfl rfl (Nat.le_of_ble_eq_true rfl) (D_Hall_ward 9 rfl) (fun w1 bw1 => ?_)
      refine j_if_ne (tgt := 25) (D_Hall_ward 10 rfl) rfl (w1) (fun c3 => ?_) (fun c3 => ?_)
      · replace h := ite_f h c3
        refine j_aloadn (k := 0) (D_Hall_ward 13 rfl) rfl rfl ?_
        refine j_iloadn (k := 1) (D_Hall_ward 14 rfl) rfl rfl ?_
        refine j_iloadn (k := 2) (D_Hall_ward 15 rfl) rfl rfl ?_
        refine j_iloadn (k := 3) (D_Hall_ward 16 rfl) rfl rfl ?_
        obtain ⟨q2, e2, h⟩ := Option.bind_eq_some_iff.mp h
        refine j_cVz (c_Hall_isOfAge (ha1) (ha2) (ha3) e2) rfl lk_Hall_222 mok_Hall_isOfAge kd_0 lc_0 rfl (by decide) rfl rfl (Nat.le_of_ble_eq_true rfl) (D_Hall_ward 17 rfl) (fun w2 bw2 => ?_)
        refine j_if_ne (tgt := 39) (D_Hall_ward 18 rfl) rfl (w2) (fun c4 => ?_) (fun c4 => ?_)
        · replace h := ite_f h c4
          refine j_iconst (v := 0) (D_Hall_ward 21 rfl) rfl ?_
          refine j_loc [0, 1, 2, 3, 4] rfl ?_
          exact s_Hall_ward_L40 (ha1) (ha2) (ha3) (ha4) (wr_lit rfl) h
        · replace h := ite_t h c4
          refine j_iconst (v := 1) (D_Hall_ward 19 rfl) rfl ?_
          refine j_goto (tgt := 40) (D_Hall_ward 20 rfl) rfl ?_
          refine j_loc [0, 1, 2, 3, 4] rfl ?_
          exact s_Hall_ward_L40 (ha1) (ha2) (ha3) (ha4) (wr_lit rfl) h
      · replace h := ite_t h c3
        refine j_ldc2 (v := (-2)) rfl ct_Hall_220 (by decide) (D_Hall_ward 11 rfl) ?_
        exact j_lret (D_Hall_ward 12 rfl) rfl (wl_lit rfl) rfl rfl (leafL h (wl_n (wl_lit rfl)))
abbrev M_Model_isHeir : MI := (⟨"InquestHallModel", "isHeir", "(III)Z"⟩, prog_14_method_70_code, 4, (some .boolean))
theorem cw_Model_isHeir : Cond.code M_Model_isHeir.1 M_Model_isHeir.2.1 M_Model_isHeir.2.2.1 M_Model_isHeir.2.2.2 ∈ TS := mTS (List.mem_of_getElem? (i := 1862) (by decide +kernel)) (by decide +kernel)
def tb_Model_isHeir : List (Nat × Instr × Nat) := [(0, .aload_n 0, 1), (1, .iload_n 1, 1), (2, .iload_n 2, 1), (3, .iload_n 3, 1), (4, .iconst 0, 1), (5, .invokevirtual 472, 3), (8, .aload_n 0, 1), (9, .getfield 432, 3), (12, .lconst 0, 1), (13, .lcmp, 1), (14, .ifCond .le 7, 3), (17, .iconst 1, 1), (18, .goto 4, 3), (21, .iconst 0, 1), (22, .ireturn, 1)]
theorem D_Model_isHeir (i : Nat) {pc len : Nat} {ins : Instr} (hi : tb_Model_isHeir[i]? = some (pc, ins, len)) : decode M_Model_isHeir.2.1 pc = .ok (ins, len) := dec_of (by decide +kernel) i hi
def f_Model_isHeir (G : GS) (a1 : Int) (a2 : Int) (a3 : Int) : Option (Int × GS) :=
  (f_Model_partOf G a1 a2 a3 0).bind fun q1 =>
  if lc (gl q1 81 61) 0 ≤ 0 then
    some (0, q1)
  else
    some (1, q1)
theorem c_Model_isHeir {X : XT} {G : GS} {a1 : Int} {a2 : Int} {a3 : Int} {r : Int × GS} (ha1 : wr a1 = a1) (ha2 : wr a2 = a2) (ha3 : wr a3 = a3) (h : f_Model_isHeir G a1 a2 a3 = some r) : Call X true 13 0 0 M_Model_isHeir [rf X 81, vi a1, vi a2, vi a3] NC G (Rz r.1 r.2) := by
  refine Call_of_J cw_Model_isHeir (by decide +kernel) (Nat.le_of_ble_eq_true rfl) ?_
  unfold f_Model_isHeir at h
  show J X true 13 0 0 M_Model_isHeir (Rz r.1 r.2) NC 0 0 0 [(0, rf X 81), (1, vi a1), (2, vi a2), (3, vi a3)] [] G
  refine j_aloadn (k := 0) (D_Model_isHeir 0 rfl) rfl rfl ?_
  refine j_iloadn (k := 1) (D_Model_isHeir 1 rfl) rfl rfl ?_
  refine j_iloadn (k := 2) (D_Model_isHeir 2 rfl) rfl rfl ?_
  refine j_iloadn (k := 3) (D_Model_isHeir 3 rfl) rfl rfl ?_
  refine j_iconst (v := 0) (D_Model_isHeir 4 rfl) rfl ?_
  obtain ⟨q1, e1, h⟩ := Option.bind_eq_some_iff.mp h
  refine j_cVv (c_Model_partOf (ha1) (ha2) (ha3) (wr_lit rfl) e1) rfl lk_Model_472 mok_Model_partOf kd_81 lc_81 rfl (by decide) rfl rfl (Nat.le_of_ble_eq_true rfl) (D_Model_isHeir 5 rfl) ?_
  refine j_aloadn (k := 0) (D_Model_isHeir 6 rfl) rfl rfl ?_
  refine j_getJ rfl fa_Model_432 kd_81 lc_81 (by decide) rfl (D_Model_isHeir 7 rfl) ?_
  refine j_lconst (v := 0) (D_Model_isHeir 8 rfl) rfl ?_
  refine j_lcmp (D_Model_isHeir 9 rfl) ?_
  refine j_if_le (tgt := 21) (D_Model_isHeir 10 rfl) rfl (wr_lc _ _) (fun c1 => ?_) (fun c1 => ?_)
  · replace h := ite_t h c1
    refine j_iconst (v := 0) (D_Model_isHeir 13 rfl) rfl ?_
    exact j_zret (D_Model_isHeir 14 rfl) rfl (wr_lit rfl) (nz_01 (by decide)) rfl rfl (leafZ h (wr_n (wr_lit rfl)) (by decide))
  · replace h := ite_f h c1
    refine j_iconst (v := 1) (D_Model_isHeir 11 rfl) rfl ?_
    refine j_goto (tgt := 22) (D_Model_isHeir 12 rfl) rfl ?_
    exact j_zret (D_Model_isHeir 14 rfl) rfl (wr_lit rfl) (nz_01 (by decide)) rfl rfl (leafZ h (wr_n (wr_lit rfl)) (by decide))
abbrev M_Model_untilOf : MI := (⟨"InquestHallModel", "untilOf", "(III)I"⟩, prog_14_method_71_code, 4, (some .int))
theorem cw_Model_untilOf : Cond.code M_Model_untilOf.1 M_Model_untilOf.2.1 M_Model_untilOf.2.2.1 M_Model_untilOf.2.2.2 ∈ TS := mTS (List.mem_of_getElem? (i := 1871) (by decide +kernel)) (by decide +kernel)
def tb_Model_untilOf : List (Nat × Instr × Nat) := [(0, .aload_n 0, 1), (1, .getfield 7, 3), (4, .iload_n 3, 1), (5, .iaload, 1), (6, .ifCond .ne 21, 3), (9, .aload_n 0, 1), (10, .getfield 67, 3), (13, .iconst 3, 1), (14, .iload_n 1, 1), (15, .imul, 1), (16, .aload_n 0, 1), (17, .getfield 37, 3), (20, .iload_n 2, 1), (21, .iaload, 1), (22, .iadd, 1), (23, .iaload, 1), (24, .goto 18, 3), (27, .aload_n 0, 1), (28, .getfield 70, 3), (31, .iconst 3, 1), (32, .iload_n 1, 1), (33, .imul, 1), (34, .aload_n 0, 1), (35, .getfield 37, 3), (38, .iload_n 2, 1), (39, .iaload, 1), (40, .iadd, 1), (41, .iaload, 1), (42, .ireturn, 1)]
theorem D_Model_untilOf (i : Nat) {pc len : Nat} {ins : Instr} (hi : tb_Model_untilOf[i]? = some (pc, ins, len)) : decode M_Model_untilOf.2.1 pc = .ok (ins, len) := dec_of (by decide +kernel) i hi
def f_Model_untilOf (G : GS) (a1 : Int) (a2 : Int) (a3 : Int) : Option (Int) :=
  gd (0 ≤ a3 ∧ a3 < 32) <|
  if gi G 82 a3.toNat = 0 then
    gd (0 ≤ a2 ∧ a2 < 12) <|
    gd (0 ≤ wr ((3 * a1) + (gi G 91 a2.toNat)) ∧ wr ((3 * a1) + (gi G 91 a2.toNat)) < 12) <|
    some (gi G 101 (wr ((3 * a1) + (gi G 91 a2.toNat))).toNat)
  else
    gd (0 ≤ a2 ∧ a2 < 12) <|
    gd (0 ≤ wr ((3 * a1) + (gi G 91 a2.toNat)) ∧ wr ((3 * a1) + (gi G 91 a2.toNat)) < 12) <|
    some (gi G 102 (wr ((3 * a1) + (gi G 91 a2.toNat))).toNat)
theorem c_Model_untilOf {X : XT} {G : GS} {a1 : Int} {a2 : Int} {a3 : Int} {r : Int} (ha1 : wr a1 = a1) (ha2 : wr a2 = a2) (ha3 : wr a3 = a3) (h : f_Model_untilOf G a1 a2 a3 = some r) : Call X true 6 0 0 M_Model_untilOf [rf X 81, vi a1, vi a2, vi a3] NC G (Ri r G) := by
  refine Call_of_J cw_Model_untilOf (by decide +kernel) (Nat.le_of_ble_eq_true rfl) ?_
  unfold f_Model_untilOf at h
  show J X true 6 0 0 M_Model_untilOf (Ri r G) NC 0 0 0 [(0, rf X 81), (1, vi a1), (2, vi a2), (3, vi a3)] [] G
  refine j_aloadn (k := 0) (D_Model_untilOf 0 rfl) rfl rfl ?_
  refine j_getR rfl fa_Model_7 kd_81 lc_81 (by decide) rfl fx_81_2 (by decide) (D_Model_untilOf 1 rfl) ?_
  refine j_iloadn (k := 3) (D_Model_untilOf 2 rfl) rfl rfl ?_
  have g1 := gd_c h
  replace h := gd_s h
  refine j_iald (NI := 32) (D_Model_untilOf 3 rfl) kd_82 lc_82 (ha3) rfl g1.1 g1.2 ?_
  refine j_if_ne (tgt := 27) (D_Model_untilOf 4 rfl) rfl (wr_gi _ _ _) (fun c1 => ?_) (fun c1 => ?_)
  · replace h := ite_f h c1
    refine j_aloadn (k := 0) (D_Model_untilOf 17 rfl) rfl rfl ?_
    refine j_getR rfl fa_Model_70 kd_81 lc_81 (by decide) rfl fx_81_24 (by decide) (D_Model_untilOf 18 rfl) ?_
    refine j_iconst (v := 3) (D_Model_untilOf 19 rfl) rfl ?_
    refine j_iloadn (k := 1) (D_Model_untilOf 20 rfl) rfl rfl ?_
    refine j_imul (D_Model_untilOf 21 rfl) ?_
    refine j_aloadn (k := 0) (D_Model_untilOf 22 rfl) rfl rfl ?_
    refine j_getR rfl fa_Model_37 kd_81 lc_81 (by decide) rfl fx_81_12 (by decide) (D_Model_untilOf 23 rfl) ?_
    refine j_iloadn (k := 2) (D_Model_untilOf 24 rfl) rfl rfl ?_
    have g2 := gd_c h
    replace h := gd_s h
    refine j_iald (NI := 12) (D_Model_untilOf 25 rfl) kd_91 lc_91 (ha2) rfl g2.1 g2.2 ?_
    refine j_iadd (D_Model_untilOf 26 rfl) ?_
    have g3 := gd_c h
    replace h := gd_s h
    refine j_iald (NI := 12) (D_Model_untilOf 27 rfl) kd_102 lc_102 (rfl) rfl g3.1 g3.2 ?_
    exact j_iret (D_Model_untilOf 28 rfl) rfl (wr_gi _ _ _) rfl rfl (leafIo h (wr_n (wr_gi _ _ _)))
  · replace h := ite_t h c1
    refine j_aloadn (k := 0) (D_Model_untilOf 5 rfl) rfl rfl ?_
    refine j_getR rfl fa_Model_67 kd_81 lc_81 (by decide) rfl fx_81_23 (by decide) (D_Model_untilOf 6 rfl) ?_
    refine j_iconst (v := 3) (D_Model_untilOf 7 rfl) rfl ?_
    refine j_iloadn (k := 1) (D_Model_untilOf 8 rfl) rfl rfl ?_
    refine j_imul (D_Model_untilOf 9 rfl) ?_
    refine j_aloadn (k := 0) (D_Model_untilOf 10 rfl) rfl rfl ?_
    refine j_getR rfl fa_Model_37 kd_81 lc_81 (by decide) rfl fx_81_12 (by decide) (D_Model_untilOf 11 rfl) ?_
    refine j_iloadn (k := 2) (D_Model_untilOf 12 rfl) rfl rfl ?_
    have g4 := gd_c h
    replace h := gd_s h
    refine j_iald (NI := 12) (D_Model_untilOf 13 rfl) kd_91 lc_91 (ha2) rfl g4.1 g4.2 ?_
    refine j_iadd (D_Model_untilOf 14 rfl) ?_
    have g5 := gd_c h
    replace h := gd_s h
    refine j_iald (NI := 12) (D_Model_untilOf 15 rfl) kd_101 lc_101 (rfl) rfl g5.1 g5.2 ?_
    refine j_goto (tgt := 42) (D_Model_untilOf 16 rfl) rfl ?_
    exact j_iret (D_Model_untilOf 28 rfl) rfl (wr_gi _ _ _) rfl rfl (leafIo h (wr_n (wr_gi _ _ _)))
abbrev M_Model_isWard : MI := (⟨"InquestHallModel", "isWard", "(III)Z"⟩, prog_14_method_72_code, 4, (some .boolean))
theorem cw_Model_isWard : Cond.code M_Model_isWard.1 M_Model_isWard.2.1 M_Model_isWard.2.2.1 M_Model_isWard.2.2.2 ∈ TS := mTS (List.mem_of_getElem? (i := 1867) (by decide +kernel)) (by decide +kernel)
theorem lk_Model_490 : Cond.methodLink "InquestHallModel" 490 M_Model_untilOf.1 ∈ TS := mTS (List.mem_of_getElem? (i := 1868) (by decide +kernel)) (by decide +kernel)
theorem mok_Model_untilOf : MOK M_Model_untilOf 3 := ⟨mTS (List.mem_of_getElem? (i := 1870) (by decide +kernel)) (by decide +kernel), mTS (List.mem_of_getElem? (i := 104) (by decide +kernel)) (by decide +kernel), mTS (List.mem_of_getElem? (i := 139) (by decide +kernel)) (by decide +kernel), cw_Model_untilOf, ⟨by decide, by decide, by decide +kernel⟩, by decide +kernel, by decide⟩
def tb_Model_isWard : List (Nat × Instr × Nat) := [(0, .aload_n 0, 1), (1, .getfield 19, 3), (4, .iload_n 3, 1), (5, .iaload, 1), (6, .sipush 360, 3), (9, .aload_n 0, 1), (10, .aload_n 0, 1), (11, .aload_n 0, 1), (12, .getfield 25, 3), (15, .iload_n 1, 1), (16, .iaload, 1), (17, .invokevirtual 417, 3), (20, .iload_n 2, 1), (21, .iload_n 3, 1), (22, .invokevirtual 490, 3), (25, .imul, 1), (26, .iadd, 1), (27, .aload_n 0, 1), (28, .getfield 25, 3), (31, .iload_n 1, 1), (32, .iaload, 1), (33, .if_icmp .le 7, 3), (36, .iconst 1, 1), (37, .goto 4, 3), (40, .iconst 0, 1), (41, .ireturn, 1)]
theorem D_Model_isWard (i : Nat) {pc len : Nat} {ins : Instr} (hi : tb_Model_isWard[i]? = some (pc, ins, len)) : decode M_Model_isWard.2.1 pc = .ok (ins, len) := dec_of (by decide +kernel) i hi
def f_Model_isWard (G : GS) (a1 : Int) (a2 : Int) (a3 : Int) : Option (Int) :=
  gd (0 ≤ a3 ∧ a3 < 32) <|
  gd (0 ≤ a1 ∧ a1 < 32) <|
  (f_Model_reignOn G (gi G 87 a1.toNat)).bind fun q1 =>
  (f_Model_untilOf G q1 a2 a3).bind fun q2 =>
  gd (0 ≤ a1 ∧ a1 < 32) <|
  if wr ((gi G 85 a3.toNat) + (360 * q2)) ≤ gi G 87 a1.toNat then
    some 0
  else
    some 1
theorem c_Model_isWard {X : XT} {G : GS} {a1 : Int} {a2 : Int} {a3 : Int} {r : Int} (ha1 : wr a1 = a1) (ha2 : wr a2 = a2) (ha3 : wr a3 = a3) (h : f_Model_isWard G a1 a2 a3 = some r) : Call X true 7 0 0 M_Model_isWard [rf X 81, vi a1, vi a2, vi a3] NC G (Rz r G) := by
  refine Call_of_J cw_Model_isWard (by decide +kernel) (Nat.le_of_ble_eq_true rfl) ?_
  unfold f_Model_isWard at h
  show J X true 7 0 0 M_Model_isWard (Rz r G) NC 0 0 0 [(0, rf X 81), (1, vi a1), (2, vi a2), (3, vi a3)] [] G
  refine j_aloadn (k := 0) (D_Model_isWard 0 rfl) rfl rfl ?_
  refine j_getR rfl fa_Model_19 kd_81 lc_81 (by decide) rfl fx_81_5 (by decide) (D_Model_isWard 1 rfl) ?_
  refine j_iloadn (k := 3) (D_Model_isWard 2 rfl) rfl rfl ?_
  have g1 := gd_c h
  replace h := gd_s h
  refine j_iald (NI := 32) (D_Model_isWard 3 rfl) kd_85 lc_85 (ha3) rfl g1.1 g1.2 ?_
  refine j_sipush (v := 360) (D_Model_isWard 4 rfl) rfl ?_
  refine j_aloadn (k := 0) (D_Model_isWard 5 rfl) rfl rfl ?_
  refine j_aloadn (k := 0) (D_Model_isWard 6 rfl) rfl rfl ?_
  refine j_aloadn (k := 0) (D_Model_isWard 7 rfl) rfl rfl ?_
  refine j_getR rfl fa_Model_25 kd_81 lc_81 (by decide) rfl fx_81_7 (by decide) (D_Model_isWard 8 rfl) ?_
  refine j_iloadn (k := 1) (D_Model_isWard 9 rfl) rfl rfl ?_
  have g2 := gd_c h
  replace h := gd_s h
  refine j_iald (NI := 32) (D_Model_isWard 10 rfl) kd_87 lc_87 (ha1) rfl g2.1 g2.2 ?_
  obtain ⟨q1, e1, h⟩ := Option.bind_eq_some_iff.mp h
  refine j_cVi (c_Model_reignOn (wr_gi _ _ _) e1) rfl lk_Model_417 mok_Model_reignOn kd_81 lc_81 rfl (by decide) rfl rfl (Nat.le_of_ble_eq_true rfl) (D_Model_isWard 11 rfl) (fun w1 => ?_)
  refine j_iloadn (k := 2) (D_Model_isWard 12 rfl) rfl rfl ?_
  refine j_iloadn (k := 3) (D_Model_isWard 13 rfl) rfl rfl ?_
  obtain ⟨q2, e2, h⟩ := Option.bind_eq_some_iff.mp h
  refine j_cVi (c_Model_untilOf (w1) (ha2) (ha3) e2) rfl lk_Model_490 mok_Model_untilOf kd_81 lc_81 rfl (by decide) rfl rfl (Nat.le_of_ble_eq_true rfl) (D_Model_isWard 14 rfl) (fun w2 => ?_)
  refine j_imul (D_Model_isWard 15 rfl) ?_
  refine j_iadd (D_Model_isWard 16 rfl) ?_
  refine j_aloadn (k := 0) (D_Model_isWard 17 rfl) rfl rfl ?_
  refine j_getR rfl fa_Model_25 kd_81 lc_81 (by decide) rfl fx_81_7 (by decide) (D_Model_isWard 18 rfl) ?_
  refine j_iloadn (k := 1) (D_Model_isWard 19 rfl) rfl rfl ?_
  have g3 := gd_c h
  replace h := gd_s h
  refine j_iald (NI := 32) (D_Model_isWard 20 rfl) kd_87 lc_87 (ha1) rfl g3.1 g3.2 ?_
  refine j_ic_le (tgt := 40) (D_Model_isWard 21 rfl) rfl (rfl) (wr_gi _ _ _) (fun c1 => ?_) (fun c1 => ?_)
  · replace h := ite_t h c1
    refine j_iconst (v := 0) (D_Model_isWard 24 rfl) rfl ?_
    exact j_zret (D_Model_isWard 25 rfl) rfl (wr_lit rfl) (nz_01 (by decide)) rfl rfl (leafZo h (wr_n (wr_lit rfl)) (by decide))
  · replace h := ite_f h c1
    refine j_iconst (v := 1) (D_Model_isWard 22 rfl) rfl ?_
    refine j_goto (tgt := 41) (D_Model_isWard 23 rfl) rfl ?_
    exact j_zret (D_Model_isWard 25 rfl) rfl (wr_lit rfl) (nz_01 (by decide)) rfl rfl (leafZo h (wr_n (wr_lit rfl)) (by decide))
abbrev M_Model_holderOf : MI := (⟨"InquestHallModel", "holderOf", "(III)I"⟩, prog_14_method_84_code, 6, (some .int))
theorem cw_Model_holderOf : Cond.code M_Model_holderOf.1 M_Model_holderOf.2.1 M_Model_holderOf.2.2.1 M_Model_holderOf.2.2.2 ∈ TS := mTS (List.mem_of_getElem? (i := 1879) (by decide +kernel)) (by decide +kernel)
theorem fa_Model_531 : FA "InquestHallModel" 531 12 66 false .int := ⟨_, _, _, _, ok_Model, by decide, mTS (List.mem_of_getElem? (i := 1367) (by decide +kernel)) (by decide +kernel), rfl, rfl⟩
theorem fa_Model_142 : FA "InquestHallModel" 142 12 68 true (.array .int) := ⟨_, _, _, _, ok_Model, by decide, mTS (List.mem_of_getElem? (i := 1369) (by decide +kernel)) (by decide +kernel), rfl, rfl⟩
theorem fx_81_68 {G : GS} (w : WF true NC G) : G.2.2 81 68 = 124 := w.2 rfl (81, 68, 124) (by decide)
theorem kd_124 : kd 124 = (0, 100) := rfl
theorem lc_124 : 124 < NC := by decide
theorem fa_Model_139 : FA "InquestHallModel" 139 12 67 true (.array .int) := ⟨_, _, _, _, ok_Model, by decide, mTS (List.mem_of_getElem? (i := 1368) (by decide +kernel)) (by decide +kernel), rfl, rfl⟩
theorem fx_81_67 {G : GS} (w : WF true NC G) : G.2.2 81 67 = 123 := w.2 rfl (81, 67, 123) (by decide)
theorem kd_123 : kd 123 = (0, 100) := rfl
theorem lc_123 : 123 < NC := by decide
theorem fa_Model_145 : FA "InquestHallModel" 145 12 69 true (.array .int) := ⟨_, _, _, _, ok_Model, by decide, mTS (List.mem_of_getElem? (i := 1370) (by decide +kernel)) (by decide +kernel), rfl, rfl⟩
theorem fx_81_69 {G : GS} (w : WF true NC G) : G.2.2 81 69 = 125 := w.2 rfl (81, 69, 125) (by decide)
theorem kd_125 : kd 125 = (0, 100) := rfl
theorem lc_125 : 125 < NC := by decide
theorem fa_Model_148 : FA "InquestHallModel" 148 12 70 true (.array .int) := ⟨_, _, _, _, ok_Model, by decide, mTS (List.mem_of_getElem? (i := 1371) (by decide +kernel)) (by decide +kernel), rfl, rfl⟩
theorem fx_81_70 {G : GS} (w : WF true NC G) : G.2.2 81 70 = 126 := w.2 rfl (81, 70, 126) (by decide)
theorem kd_126 : kd 126 = (0, 100) := rfl
theorem lc_126 : 126 < NC := by decide
theorem fa_Model_154 : FA "InquestHallModel" 154 12 72 true (.array .int) := ⟨_, _, _, _, ok_Model, by decide, mTS (List.mem_of_getElem? (i := 1373) (by decide +kernel)) (by decide +kernel), rfl, rfl⟩
theorem fx_81_72 {G : GS} (w : WF true NC G) : G.2.2 81 72 = 128 := w.2 rfl (81, 72, 128) (by decide)
theorem kd_128 : kd 128 = (0, 100) := rfl
theorem lc_128 : 128 < NC := by decide
def tb_Model_holderOf : List (Nat × Instr × Nat) := [(0, .iconst (-1), 1), (1, .istore 4, 2), (3, .iconst 0, 1), (4, .istore 5, 2), (6, .iload 5, 2), (8, .aload_n 0, 1), (9, .getfield 531, 3), (12, .if_icmp .ge 94, 3), (15, .aload_n 0, 1), (16, .getfield 139, 3), (19, .iload 5, 2), (21, .iaload, 1), (22, .iload_n 1, 1), (23, .if_icmp .ne 77, 3), (26, .aload_n 0, 1), (27, .getfield 145, 3), (30, .iload 5, 2), (32, .iaload, 1), (33, .iload_n 2, 1), (34, .if_icmp .gt 66, 3), (37, .aload_n 0, 1), (38, .getfield 148, 3), (41, .iload 5, 2), (43, .iaload, 1), (44, .iload_n 3, 1), (45, .if_icmp .gt 55, 3), (48, .aload_n 0, 1), (49, .getfield 154, 3), (52, .iload 5, 2), (54, .iaload, 1), (55, .iconst (-1), 1), (56, .if_icmp .eq 17, 3), (59, .aload_n 0, 1), (60, .getfield 154, 3), (63, .iload 5, 2), (65, .iaload, 1), (66, .iload_n 3, 1), (67, .if_icmp .gt 6, 3), (70, .goto 30, 3), (73, .iload 4, 2), (75, .iconst (-1), 1), (76, .if_icmp .eq 20, 3), (79, .aload_n 0, 1), (80, .getfield 145, 3), (83, .iload 5, 2), (85, .iaload, 1), (86, .aload_n 0, 1), (87, .getfield 145, 3), (90, .iload 4, 2), (92, .iaload, 1), (93, .if_icmp .lt 7, 3), (96, .iload 5, 2), (98, .istore 4, 2), (100, .iinc 5 1, 3), (103, .goto (-97), 3), (106, .iload 4, 2), (108, .iconst (-1), 1), (109, .if_icmp .ne 8, 3), (112, .bipush (-2), 2), (114, .goto 10, 3), (117, .aload_n 0, 1), (118, .getfield 142, 3), (121, .iload 4, 2), (123, .iaload, 1), (124, .ireturn, 1)]
theorem D_Model_holderOf (i : Nat) {pc len : Nat} {ins : Instr} (hi : tb_Model_holderOf[i]? = some (pc, ins, len)) : decode M_Model_holderOf.2.1 pc = .ok (ins, len) := dec_of (by decide +kernel) i hi
def f_Model_holderOf_L100 (G : GS) (k6 : Int → Int → Int → Int → Int → Option (Int)) (x1 : Int) (x2 : Int) (x3 : Int) (x4 : Int) (x5 : Int) : Option (Int) :=
  k6 x1 x2 x3 x4 (wr (x5 + 1))
theorem s_Model_holderOf_L100 {X : XT} {G : GS} {r : Int} {k6 : Int → Int → Int → Int → Int → Option (Int)} (hk6 : ∀ {x1 : Int} {x2 : Int} {x3 : Int} {x4 : Int} {x5 : Int} , wr x1 = x1 → wr x2 = x2 → wr x3 = x3 → wr x4 = x4 → wr x5 = x5 → k6 x1 x2 x3 x4 x5 = some r → J X true 6 0 0 M_Model_holderOf (Ri r G) NC 0 0 6 [(0, rf X 81), (1, vi x1), (2, vi x2), (3, vi x3), (4, vi x4), (5, vi x5)] [] G) : ∀ {x1 : Int} {x2 : Int} {x3 : Int} {x4 : Int} {x5 : Int}, wr x1 = x1 → wr x2 = x2 → wr x3 = x3 → wr x4 = x4 → wr x5 = x5 → f_Model_holderOf_L100 G k6 x1 x2 x3 x4 x5 = some r → J X true 6 0 0 M_Model_holderOf (Ri r G) NC 0 0 100 [(0, rf X 81), (1, vi x1), (2, vi x2), (3, vi x3), (4, vi x4), (5, vi x5)] [] G := by
  intro x1 x2 x3 x4 x5 hx1 hx2 hx3 hx4 hx5 h
  unfold f_Model_holderOf_L100 at h
  refine j_iinc (k := 5) (L' := [(5, vi (wr (x5 + 1))), (0, rf X 81), (1, vi x1), (2, vi x2), (3, vi x3), (4, vi x4)]) (D_Model_holderOf 53 rfl) rfl rfl (by decide) rfl ?_
  refine j_goto (tgt := 6) (D_Model_holderOf 54 rfl) rfl ?_
  refine j_loc [1, 2, 3, 4, 5, 0] rfl ?_
  exact hk6 (hx1) (hx2) (hx3) (hx4) (wr_wr _) h
def f_Model_holderOf_L96 (G : GS) (k6 : Int → Int → Int → Int → Int → Option (Int)) (x1 : Int) (x2 : Int) (x3 : Int) (x5 : Int) : Option (Int) :=
  f_Model_holderOf_L100 G k6 x1 x2 x3 x5 x5
theorem s_Model_holderOf_L96 {X : XT} {G : GS} {r : Int} {k6 : Int → Int → Int → Int → Int → Option (Int)} (hk6 : ∀ {x1 : Int} {x2 : Int} {x3 : Int} {x4 : Int} {x5 : Int} , wr x1 = x1 → wr x2 = x2 → wr x3 = x3 → wr x4 = x4 → wr x5 = x5 → k6 x1 x2 x3 x4 x5 = some r → J X true 6 0 0 M_Model_holderOf (Ri r G) NC 0 0 6 [(0, rf X 81), (1, vi x1), (2, vi x2), (3, vi x3), (4, vi x4), (5, vi x5)] [] G) : ∀ {x1 : Int} {x2 : Int} {x3 : Int} {x5 : Int}, wr x1 = x1 → wr x2 = x2 → wr x3 = x3 → wr x5 = x5 → f_Model_holderOf_L96 G k6 x1 x2 x3 x5 = some r → J X true 6 0 0 M_Model_holderOf (Ri r G) NC 0 0 96 [(0, rf X 81), (1, vi x1), (2, vi x2), (3, vi x3), (5, vi x5)] [] G := by
  intro x1 x2 x3 x5 hx1 hx2 hx3 hx5 h
  unfold f_Model_holderOf_L96 at h
  refine j_iload (k := 4) (D_Model_holderOf 51 rfl) rfl ?_
  refine j_istore (L' := [(4, vi x5), (0, rf X 81), (1, vi x1), (2, vi x2), (3, vi x3), (5, vi x5)]) (D_Model_holderOf 52 rfl) (hx5) (by decide) rfl ?_
  refine j_loc [1, 2, 3, 4, 0, 5] rfl ?_
  exact s_Model_holderOf_L100 hk6 (hx1) (hx2) (hx3) (hx5) (hx5) h
def f_Model_holderOf_L73 (G : GS) (k6 : Int → Int → Int → Int → Int → Option (Int)) (x1 : Int) (x2 : Int) (x3 : Int) (x4 : Int) (x5 : Int) : Option (Int) :=
  if x4 = (-1) then
    f_Model_holderOf_L96 G k6 x1 x2 x3 x5
  else
    gd (0 ≤ x5 ∧ x5 < 100) <|
    gd (0 ≤ x4 ∧ x4 < 100) <|
    if gi G 125 x5.toNat < gi G 125 x4.toNat then
      f_Model_holderOf_L100 G k6 x1 x2 x3 x4 x5
    else
      f_Model_holderOf_L96 G k6 x1 x2 x3 x5
theorem s_Model_holderOf_L73 {X : XT} {G : GS} {r : Int} {k6 : Int → Int → Int → Int → Int → Option (Int)} (hk6 : ∀ {x1 : Int} {x2 : Int} {x3 : Int} {x4 : Int} {x5 : Int} , wr x1 = x1 → wr x2 = x2 → wr x3 = x3 → wr x4 = x4 → wr x5 = x5 → k6 x1 x2 x3 x4 x5 = some r → J X true 6 0 0 M_Model_holderOf (Ri r G) NC 0 0 6 [(0, rf X 81), (1, vi x1), (2, vi x2), (3, vi x3), (4, vi x4), (5, vi x5)] [] G) : ∀ {x1 : Int} {x2 : Int} {x3 : Int} {x4 : Int} {x5 : Int}, wr x1 = x1 → wr x2 = x2 → wr x3 = x3 → wr x4 = x4 → wr x5 = x5 → f_Model_holderOf_L73 G k6 x1 x2 x3 x4 x5 = some r → J X true 6 0 0 M_Model_holderOf (Ri r G) NC 0 0 73 [(0, rf X 81), (1, vi x1), (2, vi x2), (3, vi x3), (4, vi x4), (5, vi x5)] [] G := by
  intro x1 x2 x3 x4 x5 hx1 hx2 hx3 hx4 hx5 h
  unfold f_Model_holderOf_L73 at h
  refine j_iload (k := 4) (D_Model_holderOf 39 rfl) rfl ?_
  refine j_iconst (v := (-1)) (D_Model_holderOf 40 rfl) rfl ?_
  refine j_ic_eq (tgt := 96) (D_Model_holderOf 41 rfl) rfl (hx4) (wr_lit rfl) (fun c1 => ?_) (fun c1 => ?_)
  · replace h := ite_t h c1
    refine j_loc [0, 1, 2, 3, 5] rfl ?_
    exact s_Model_holderOf_L96 hk6 (hx1) (hx2) (hx3) (hx5) h
  · replace h := ite_f h c1
    refine j_aloadn (k := 0) (D_Model_holderOf 42 rfl) rfl rfl ?_
    refine j_getR rfl fa_Model_145 kd_81 lc_81 (by decide) rfl fx_81_69 (by decide) (D_Model_holderOf 43 rfl) ?_
    refine j_iload (k := 5) (D_Model_holderOf 44 rfl) rfl ?_
    have g1 := gd_c h
    replace h := gd_s h
    refine j_iald (NI := 100) (D_Model_holderOf 45 rfl) kd_125 lc_125 (hx5) rfl g1.1 g1.2 ?_
    refine j_aloadn (k := 0) (D_Model_holderOf 46 rfl) rfl rfl ?_
    refine j_getR rfl fa_Model_145 kd_81 lc_81 (by decide) rfl fx_81_69 (by decide) (D_Model_holderOf 47 rfl) ?_
    refine j_iload (k := 4) (D_Model_holderOf 48 rfl) rfl ?_
    have g2 := gd_c h
    replace h := gd_s h
    refine j_iald (NI := 100) (D_Model_holderOf 49 rfl) kd_125 lc_125 (hx4) rfl g2.1 g2.2 ?_
    refine j_ic_lt (tgt := 100) (D_Model_holderOf 50 rfl) rfl (wr_gi _ _ _) (wr_gi _ _ _) (fun c2 => ?_) (fun c2 => ?_)
    · replace h := ite_t h c2
      refine j_loc [0, 1, 2, 3, 4, 5] rfl ?_
      exact s_Model_holderOf_L100 hk6 (hx1) (hx2) (hx3) (hx4) (hx5) h
    · replace h := ite_f h c2
      refine j_loc [0, 1, 2, 3, 5] rfl ?_
      exact s_Model_holderOf_L96 hk6 (hx1) (hx2) (hx3) (hx5) h
def f_Model_holderOf_L6 (G : GS) : Nat → Int → Int → Int → Int → Int → Option (Int)
  | 0, _, _, _, _, _ => none
  | n + 1, x1, x2, x3, x4, x5 =>
    if gi G 81 66 ≤ x5 then
      if x4 = (-1) then
        some (-2)
      else
        gd (0 ≤ x4 ∧ x4 < 100) <|
        some (gi G 124 x4.toNat)
    else
      gd (0 ≤ x5 ∧ x5 < 100) <|
      if gi G 123 x5.toNat = x1 then
        gd (0 ≤ x5 ∧ x5 < 100) <|
        if x2 < gi G 125 x5.toNat then
          f_Model_holderOf_L100 G (f_Model_holderOf_L6 G n) x1 x2 x3 x4 x5
        else
          gd (0 ≤ x5 ∧ x5 < 100) <|
          if x3 < gi G 126 x5.toNat then
            f_Model_holderOf_L100 G (f_Model_holderOf_L6 G n) x1 x2 x3 x4 x5
          else
            gd (0 ≤ x5 ∧ x5 < 100) <|
            if gi G 128 x5.toNat = (-1) then
              f_Model_holderOf_L73 G (f_Model_holderOf_L6 G n) x1 x2 x3 x4 x5
            else
              gd (0 ≤ x5 ∧ x5 < 100) <|
              if x3 < gi G 128 x5.toNat then
                f_Model_holderOf_L73 G (f_Model_holderOf_L6 G n) x1 x2 x3 x4 x5
              else
                f_Model_holderOf_L100 G (f_Model_holderOf_L6 G n) x1 x2 x3 x4 x5
      else
        f_Model_holderOf_L100 G (f_Model_holderOf_L6 G n) x1 x2 x3 x4 x5
theorem s_Model_holderOf_L6 {X : XT} {G : GS} {r : Int} : ∀ (n : Nat) {x1 : Int} {x2 : Int} {x3 : Int} {x4 : Int} {x5 : Int}, wr x1 = x1 → wr x2 = x2 → wr x3 = x3 → wr x4 = x4 → wr x5 = x5 → f_Model_holderOf_L6 G n x1 x2 x3 x4 x5 = some r → J X true 6 0 0 M_Model_holderOf (Ri r G) NC 0 0 6 [(0, rf X 81), (1, vi x1), (2, vi x2), (3, vi x3), (4, vi x4), (5, vi x5)] [] G := by
  intro n
  induction n with
  | zero =>
    intro x1 x2 x3 x4 x5 hx1 hx2 hx3 hx4 hx5 h
    exact none_some h
  | succ n ih =>
    intro x1 x2 x3 x4 x5 hx1 hx2 hx3 hx4 hx5 h
    rw [f_Model_holderOf_L6] at h
    refine j_iload (k := 5) (D_Model_holderOf 4 rfl) rfl ?_
    refine j_aloadn (k := 0) (D_Model_holderOf 5 rfl) rfl rfl ?_
    refine j_getI rfl fa_Model_531 kd_81 lc_81 (by decide) rfl (D_Model_holderOf 6 rfl) ?_
    refine j_ic_ge (tgt := 106) (D_Model_holderOf 7 rfl) rfl (hx5) (wr_gi _ _ _) (fun c1 => ?_) (fun c1 => ?_)
    · replace h := ite_t h c1
      refine j_iload (k := 4) (D_Model_holderOf 55 rfl) rfl ?_
      refine j_iconst (v := (-1)) (D_Model_holderOf 56 rfl) rfl ?_
      refine j_ic_ne (tgt := 117) (D_Model_holderOf 57 rfl) rfl (hx4) (wr_lit rfl) (fun c2 => ?_) (fun c2 => ?_)
      · replace h := ite_f h c2
        refine j_aloadn (k := 0) (D_Model_holderOf 60 rfl) rfl rfl ?_
        refine j_getR rfl fa_Model_142 kd_81 lc_81 (by decide) rfl fx_81_68 (by decide) (D_Model_holderOf 61 rfl) ?_
        refine j_iload (k := 4) (D_Model_holderOf 62 rfl) rfl ?_
        have g1 := gd_c h
        replace h := gd_s h
        refine j_iald (NI := 100) (D_Model_holderOf 63 rfl) kd_124 lc_124 (hx4) rfl g1.1 g1.2 ?_
        exact j_iret (D_Model_holderOf 64 rfl) rfl (wr_gi _ _ _) rfl rfl (leafIo h (wr_n (wr_gi _ _ _)))
      · replace h := ite_t h c2
        refine j_bipush (v := (-2)) (D_Model_holderOf 58 rfl) rfl ?_
        refine j_goto (tgt := 124) (D_Model_holderOf 59 rfl) rfl ?_
        exact j_iret (D_Model_holderOf 64 rfl) rfl (wr_lit rfl) rfl rfl (leafIo h (wr_n (wr_lit rfl)))
    · replace h := ite_f h c1
      refine j_aloadn (k := 0) (D_Model_holderOf 8 rfl) rfl rfl ?_
      refine j_getR rfl fa_Model_139 kd_81 lc_81 (by decide) rfl fx_81_67 (by decide) (D_Model_holderOf 9 rfl) ?_
      refine j_iload (k := 5) (D_Model_holderOf 10 rfl) rfl ?_
      have g2 := gd_c h
      replace h := gd_s h
      refine j_iald (NI := 100) (D_Model_holderOf 11 rfl) kd_123 lc_123 (hx5) rfl g2.1 g2.2 ?_
      refine j_iloadn (k := 1) (D_Model_holderOf 12 rfl) rfl rfl ?_
      refine j_ic_ne (tgt := 100) (D_Model_holderOf 13 rfl) rfl (wr_gi _ _ _) (hx1) (fun c3 => ?_) (fun c3 => ?_)
      · replace h := ite_f h c3
        refine j_loc [0, 1, 2, 3, 4, 5] rfl ?_
        exact s_Model_holderOf_L100 ih (hx1) (hx2) (hx3) (hx4) (hx5) h
      · replace h := ite_t h c3
        refine j_aloadn (k := 0) (D_Model_holderOf 14 rfl) rfl rfl ?_
        refine j_getR rfl fa_Model_145 kd_81 lc_81 (by decide) rfl fx_81_69 (by decide) (D_Model_holderOf 15 rfl) ?_
        refine j_iload (k := 5) (D_Model_holderOf 16 rfl) rfl ?_
        have g3 := gd_c h
        replace h := gd_s h
        refine j_iald (NI := 100) (D_Model_holderOf 17 rfl) kd_125 lc_125 (hx5) rfl g3.1 g3.2 ?_
        refine j_iloadn (k := 2) (D_Model_holderOf 18 rfl) rfl rfl ?_
        refine j_ic_gt (tgt := 100) (D_Model_holderOf 19 rfl) rfl (wr_gi _ _ _) (hx2) (fun c4 => ?_) (fun c4 => ?_)
        · replace h := ite_t h c4
          refine j_loc [0, 1, 2, 3, 4, 5] rfl ?_
          exact s_Model_holderOf_L100 ih (hx1) (hx2) (hx3) (hx4) (hx5) h
        · replace h := ite_f h c4
          refine j_aloadn (k := 0) (D_Model_holderOf 20 rfl) rfl rfl ?_
          refine j_getR rfl fa_Model_148 kd_81 lc_81 (by decide) rfl fx_81_70 (by decide) (D_Model_holderOf 21 rfl) ?_
          refine j_iload (k := 5) (D_Model_holderOf 22 rfl) rfl ?_
          have g4 := gd_c h
          replace h := gd_s h
          refine j_iald (NI := 100) (D_Model_holderOf 23 rfl) kd_126 lc_126 (hx5) rfl g4.1 g4.2 ?_
          refine j_iloadn (k := 3) (D_Model_holderOf 24 rfl) rfl rfl ?_
          refine j_ic_gt (tgt := 100) (D_Model_holderOf 25 rfl) rfl (wr_gi _ _ _) (hx3) (fun c5 => ?_) (fun c5 => ?_)
          · replace h := ite_t h c5
            refine j_loc [0, 1, 2, 3, 4, 5] rfl ?_
            exact s_Model_holderOf_L100 ih (hx1) (hx2) (hx3) (hx4) (hx5) h
          · replace h := ite_f h c5
            refine j_aloadn (k := 0) (D_Model_holderOf 26 rfl) rfl rfl ?_
            refine j_getR rfl fa_Model_154 kd_81 lc_81 (by decide) rfl fx_81_72 (by decide) (D_Model_holderOf 27 rfl) ?_
            refine j_iload (k := 5) (D_Model_holderOf 28 rfl) rfl ?_
            have g5 := gd_c h
            replace h := gd_s h
            refine j_iald (NI := 100) (D_Model_holderOf 29 rfl) kd_128 lc_128 (hx5) rfl g5.1 g5.2 ?_
            refine j_iconst (v := (-1)) (D_Model_holderOf 30 rfl) rfl ?_
            refine j_ic_eq (tgt := 73) (D_Model_holderOf 31 rfl) rfl (wr_gi _ _ _) (wr_lit rfl) (fun c6 => ?_) (fun c6 => ?_)
            · replace h := ite_t h c6
              refine j_loc [0, 1, 2, 3, 4, 5] rfl ?_
              exact s_Model_holderOf_L73 ih (hx1) (hx2) (hx3) (hx4) (hx5) h
            · replace h := ite_f h c6
              refine j_aloadn (k := 0) (D_Model_holderOf 32 rfl) rfl rfl ?_
              refine j_getR rfl fa_Model_154 kd_81 lc_81 (by decide) rfl fx_81_72 (by decide) (D_Model_holderOf 33 rfl) ?_
              refine j_iload (k := 5) (D_Model_holderOf 34 rfl) rfl ?_
              have g6 := gd_c h
              replace h := gd_s h
              refine j_iald (NI := 100) (D_Model_holderOf 35 rfl) kd_128 lc_128 (hx5) rfl g6.1 g6.2 ?_
              refine j_iloadn (k := 3) (D_Model_holderOf 36 rfl) rfl rfl ?_
              refine j_ic_gt (tgt := 73) (D_Model_holderOf 37 rfl) rfl (wr_gi _ _ _) (hx3) (fun c7 => ?_) (fun c7 => ?_)
              · replace h := ite_t h c7
                refine j_loc [0, 1, 2, 3, 4, 5] rfl ?_
                exact s_Model_holderOf_L73 ih (hx1) (hx2) (hx3) (hx4) (hx5) h
              · replace h := ite_f h c7
                refine j_goto (tgt := 100) (D_Model_holderOf 38 rfl) rfl ?_
                refine j_loc [0, 1, 2, 3, 4, 5] rfl ?_
                exact s_Model_holderOf_L100 ih (hx1) (hx2) (hx3) (hx4) (hx5) h
def f_Model_holderOf (G : GS) (a1 : Int) (a2 : Int) (a3 : Int) : Option (Int) :=
  f_Model_holderOf_L6 G FU a1 a2 a3 (-1) 0
theorem c_Model_holderOf {X : XT} {G : GS} {a1 : Int} {a2 : Int} {a3 : Int} {r : Int} (ha1 : wr a1 = a1) (ha2 : wr a2 = a2) (ha3 : wr a3 = a3) (h : f_Model_holderOf G a1 a2 a3 = some r) : Call X true 6 0 0 M_Model_holderOf [rf X 81, vi a1, vi a2, vi a3] NC G (Ri r G) := by
  refine Call_of_J cw_Model_holderOf (by decide +kernel) (Nat.le_of_ble_eq_true rfl) ?_
  unfold f_Model_holderOf at h
  show J X true 6 0 0 M_Model_holderOf (Ri r G) NC 0 0 0 [(0, rf X 81), (1, vi a1), (2, vi a2), (3, vi a3)] [] G
  refine j_iconst (v := (-1)) (D_Model_holderOf 0 rfl) rfl ?_
  refine j_istore (L' := [(4, vi (-1)), (0, rf X 81), (1, vi a1), (2, vi a2), (3, vi a3)]) (D_Model_holderOf 1 rfl) (wr_lit rfl) (by decide) rfl ?_
  refine j_iconst (v := 0) (D_Model_holderOf 2 rfl) rfl ?_
  refine j_istore (L' := [(5, vi 0), (4, vi (-1)), (0, rf X 81), (1, vi a1), (2, vi a2), (3, vi a3)]) (D_Model_holderOf 3 rfl) (wr_lit rfl) (by decide) rfl ?_
  refine j_loc [2, 3, 4, 5, 1, 0] rfl ?_
  exact s_Model_holderOf_L6 FU (ha1) (ha2) (ha3) (wr_lit rfl) (wr_lit rfl) h
abbrev M_Model_gathers : MI := (⟨"InquestHallModel", "gathers", "(III)V"⟩, prog_14_method_67_code, 6, none)
theorem cw_Model_gathers : Cond.code M_Model_gathers.1 M_Model_gathers.2.1 M_Model_gathers.2.2.1 M_Model_gathers.2.2.2 ∈ TS := mTS (List.mem_of_getElem? (i := 1883) (by decide +kernel)) (by decide +kernel)
theorem fa_Model_136 : FA "InquestHallModel" 136 12 63 true (.array .int) := ⟨_, _, _, _, ok_Model, by decide, mTS (List.mem_of_getElem? (i := 1364) (by decide +kernel)) (by decide +kernel), rfl, rfl⟩
theorem fx_81_63 {G : GS} (w : WF true NC G) : G.2.2 81 63 = 122 := w.2 rfl (81, 63, 122) (by decide)
theorem kd_122 : kd 122 = (0, 8) := rfl
theorem lc_122 : 122 < NC := by decide
theorem ct_Model_484 : Cond.constantLong "InquestHallModel" 484 (100 : Int64) ∈ TS := mTS (List.mem_of_getElem? (i := 1884) (by decide +kernel)) (by decide +kernel)
def tb_Model_gathers : List (Nat × Instr × Nat) := [(0, .iconst 0, 1), (1, .istore 4, 2), (3, .iconst 0, 1), (4, .istore 5, 2), (6, .iload 5, 2), (8, .bipush 6, 2), (10, .if_icmp .ge 34, 3), (13, .iload 4, 2), (15, .aload_n 0, 1), (16, .getfield 43, 3), (19, .bipush 6, 2), (21, .iload_n 2, 1), (22, .imul, 1), (23, .iload 5, 2), (25, .iadd, 1), (26, .iaload, 1), (27, .ifCond .le 7, 3), (30, .iconst 1, 1), (31, .goto 4, 3), (34, .iconst 0, 1), (35, .iadd, 1), (36, .istore 4, 2), (38, .iinc 5 1, 3), (41, .goto (-35), 3), (44, .aload_n 0, 1), (45, .getfield 136, 3), (48, .iconst 1, 1), (49, .aload_n 0, 1), (50, .iload_n 2, 1), (51, .invokevirtual 222, 3), (54, .iastore, 1), (55, .aload_n 0, 1), (56, .getfield 136, 3), (59, .iconst 2, 1), (60, .iload 4, 2), (62, .iastore, 1), (63, .aload_n 0, 1), (64, .getfield 136, 3), (67, .iconst 3, 1), (68, .aload_n 0, 1), (69, .getfield 34, 3), (72, .iload_n 2, 1), (73, .iaload, 1), (74, .iastore, 1), (75, .aload_n 0, 1), (76, .getfield 136, 3), (79, .iconst 4, 1), (80, .aload_n 0, 1), (81, .getfield 37, 3), (84, .iload_n 2, 1), (85, .iaload, 1), (86, .iastore, 1), (87, .aload_n 0, 1), (88, .getfield 136, 3), (91, .bipush 6, 2), (93, .aload_n 0, 1), (94, .iload_n 1, 1), (95, .iload_n 2, 1), (96, .invokevirtual 478, 3), (99, .iastore, 1), (100, .aload_n 0, 1), (101, .getfield 136, 3), (104, .iconst 5, 1), (105, .iconst 0, 1), (106, .iastore, 1), (107, .aload_n 0, 1), (108, .getfield 136, 3), (111, .bipush 7, 2), (113, .iconst 0, 1), (114, .iastore, 1), (115, .iload_n 3, 1), (116, .iconst (-1), 1), (117, .if_icmp .ne 4, 3), (120, .return_, 1), (121, .aload_n 0, 1), (122, .iload_n 1, 1), (123, .iload_n 2, 1), (124, .iload_n 3, 1), (125, .iconst 0, 1), (126, .invokevirtual 472, 3), (129, .aload_n 0, 1), (130, .getfield 136, 3), (133, .bipush 7, 2), (135, .ldc2_w 484, 3), (138, .aload_n 0, 1), (139, .getfield 432, 3), (142, .lmul, 1), (143, .aload_n 0, 1), (144, .getfield 436, 3), (147, .ldiv, 1), (148, .l2i, 1), (149, .iastore, 1), (150, .aload_n 0, 1), (151, .getfield 136, 3), (154, .iconst 5, 1), (155, .aload_n 0, 1), (156, .getfield 25, 3), (159, .iload_n 1, 1), (160, .iaload, 1), (161, .aload_n 0, 1), (162, .getfield 22, 3), (165, .iload_n 3, 1), (166, .iaload, 1), (167, .if_icmp .le 23, 3), (170, .aload_n 0, 1), (171, .getfield 25, 3), (174, .iload_n 1, 1), (175, .iaload, 1), (176, .aload_n 0, 1), (177, .getfield 22, 3), (180, .iload_n 3, 1), (181, .iaload, 1), (182, .isub, 1), (183, .sipush 360, 3), (186, .idiv, 1), (187, .goto 4, 3), (190, .iconst 0, 1), (191, .iastore, 1), (192, .return_, 1)]
theorem D_Model_gathers (i : Nat) {pc len : Nat} {ins : Instr} (hi : tb_Model_gathers[i]? = some (pc, ins, len)) : decode M_Model_gathers.2.1 pc = .ok (ins, len) := dec_of (by decide +kernel) i hi
def f_Model_gathers_L191 (G : GS) (s0 : Int) (s1 : Int) : Option (GS) :=
  gd (0 ≤ s1 ∧ s1 < 8) <|
  wG (si G 122 s1.toNat s0) fun G1 =>
  some G1
theorem s_Model_gathers_L191 {X : XT} {r : GS} : ∀ {G : GS} {s0 : Int} {s1 : Int}, wr s0 = s0 → wr s1 = s1 → f_Model_gathers_L191 G s0 s1 = some r → J X true 14 0 0 M_Model_gathers (Rv r) NC 0 0 191 [(0, rf X 81)] [vi s0, vi s1, rf X 122] G := by
  intro G s0 s1 hs0 hs1 h
  unfold f_Model_gathers_L191 at h
  have g1 := gd_c h
  replace h := gd_s h
  refine j_iast (NI := 8) (D_Model_gathers 117 rfl) kd_122 lc_122 (hs1) rfl g1.1 g1.2 ?_
  refine j_gen (fun G1 e1 => ?_)
  replace h := wG_at h e1
  exact j_vret (D_Model_gathers 118 rfl) rfl rfl rfl (leafV h)
def f_Model_gathers_L35 (k6 : GS → Int → Int → Int → Int → Int → Option (GS)) (G : GS) (x1 : Int) (x2 : Int) (x3 : Int) (x5 : Int) (s0 : Int) (s1 : Int) : Option (GS) :=
  k6 G x1 x2 x3 (wr (s1 + s0)) (wr (x5 + 1))
theorem s_Model_gathers_L35 {X : XT} {r : GS} {k6 : GS → Int → Int → Int → Int → Int → Option (GS)} (hk6 : ∀ {G : GS} {x1 : Int} {x2 : Int} {x3 : Int} {x4 : Int} {x5 : Int} , wr x1 = x1 → wr x2 = x2 → wr x3 = x3 → wr x4 = x4 → wr x5 = x5 → k6 G x1 x2 x3 x4 x5 = some r → J X true 14 0 0 M_Model_gathers (Rv r) NC 0 0 6 [(0, rf X 81), (1, vi x1), (2, vi x2), (3, vi x3), (4, vi x4), (5, vi x5)] [] G) : ∀ {G : GS} {x1 : Int} {x2 : Int} {x3 : Int} {x5 : Int} {s0 : Int} {s1 : Int}, wr x1 = x1 → wr x2 = x2 → wr x3 = x3 → wr x5 = x5 → wr s0 = s0 → wr s1 = s1 → f_Model_gathers_L35 k6 G x1 x2 x3 x5 s0 s1 = some r → J X true 14 0 0 M_Model_gathers (Rv r) NC 0 0 35 [(0, rf X 81), (1, vi x1), (2, vi x2), (3, vi x3), (5, vi x5)] [vi s0, vi s1] G := by
  intro G x1 x2 x3 x5 s0 s1 hx1 hx2 hx3 hx5 hs0 hs1 h
  unfold f_Model_gathers_L35 at h
  refine j_iadd (D_Model_gathers 20 rfl) ?_
  refine j_istore (L' := [(4, vi (wr (s1 + s0))), (0, rf X 81), (1, vi x1), (2, vi x2), (3, vi x3), (5, vi x5)]) (D_Model_gathers 21 rfl) (rfl) (by decide) rfl ?_
  refine j_iinc (k := 5) (L' := [(5, vi (wr (x5 + 1))), (4, vi (wr (s1 + s0))), (0, rf X 81), (1, vi x1), (2, vi x2), (3, vi x3)]) (D_Model_gathers 22 rfl) rfl rfl (by decide) rfl ?_
  refine j_goto (tgt := 6) (D_Model_gathers 23 rfl) rfl ?_
  refine j_loc [2, 3, 4, 5, 1, 0] rfl ?_
  exact hk6 (hx1) (hx2) (hx3) (wr_wr _) (wr_wr _) h
def f_Model_gathers_L6 : Nat → GS → Int → Int → Int → Int → Int → Option (GS)
  | 0, _, _, _, _, _, _ => none
  | n + 1, G, x1, x2, x3, x4, x5 =>
    if 6 ≤ x5 then
      (f_Model_worthOf G x2).bind fun q1 =>
      wG (si G 122 1 q1) fun G1 =>
      wG (si G1 122 2 x4) fun G2 =>
      gd (0 ≤ x2 ∧ x2 < 12) <|
      wG (si G2 122 3 (gi G2 90 x2.toNat)) fun G3 =>
      gd (0 ≤ x2 ∧ x2 < 12) <|
      wG (si G3 122 4 (gi G3 91 x2.toNat)) fun G4 =>
      (f_Model_heirsOf G4 x1 x2).bind fun q2 =>
      wG (si q2.2 122 6 q2.1) fun G5 =>
      wG (si G5 122 5 0) fun G6 =>
      wG (si G6 122 7 0) fun G7 =>
      if x3 = (-1) then
        some G7
      else
        (f_Model_partOf G7 x1 x2 x3 0).bind fun q3 =>
        gd (¬ gl q3 81 62 = 0) <|
        wG (si q3 122 7 (ldv (100 * (gl q3 81 61)) (gl q3 81 62))) fun G8 =>
        gd (0 ≤ x1 ∧ x1 < 32) <|
        gd (0 ≤ x3 ∧ x3 < 32) <|
        if gi G8 87 x1.toNat ≤ gi G8 86 x3.toNat then
          f_Model_gathers_L191 G8 0 5
        else
          gd (0 ≤ x1 ∧ x1 < 32) <|
          gd (0 ≤ x3 ∧ x3 < 32) <|
          f_Model_gathers_L191 G8 (dv ((gi G8 87 x1.toNat) - (gi G8 86 x3.toNat)) 360) 5
    else
      gd (0 ≤ wr ((6 * x2) + x5) ∧ wr ((6 * x2) + x5) < 72) <|
      if gi G 93 (wr ((6 * x2) + x5)).toNat ≤ 0 then
        f_Model_gathers_L35 (f_Model_gathers_L6 n) G x1 x2 x3 x5 0 x4
      else
        f_Model_gathers_L35 (f_Model_gathers_L6 n) G x1 x2 x3 x5 1 x4
theorem s_Model_gathers_L6 {X : XT} {r : GS} : ∀ (n : Nat) {G : GS} {x1 : Int} {x2 : Int} {x3 : Int} {x4 : Int} {x5 : Int}, wr x1 = x1 → wr x2 = x2 → wr x3 = x3 → wr x4 = x4 → wr x5 = x5 → f_Model_gathers_L6 n G x1 x2 x3 x4 x5 = some r → J X true 14 0 0 M_Model_gathers (Rv r) NC 0 0 6 [(0, rf X 81), (1, vi x1), (2, vi x2), (3, vi x3), (4, vi x4), (5, vi x5)] [] G := by
  intro n
  induction n with
  | zero =>
    intro G x1 x2 x3 x4 x5 hx1 hx2 hx3 hx4 hx5 h
    exact none_some h
  | succ n ih =>
    intro G x1 x2 x3 x4 x5 hx1 hx2 hx3 hx4 hx5 h
    rw [f_Model_gathers_L6] at h
    refine j_iload (k := 5) (D_Model_gathers 4 rfl) rfl ?_
    refine j_bipush (v := 6) (D_Model_gathers 5 rfl) rfl ?_
    refine j_ic_ge (tgt := 44) (D_Model_gathers 6 rfl) rfl (hx5) (wr_lit rfl) (fun c1 => ?_) (fun c1 => ?_)
    · replace h := ite_t h c1
      refine j_aloadn (k := 0) (D_Model_gathers 24 rfl) rfl rfl ?_
      refine j_getR rfl fa_Model_136 kd_81 lc_81 (by decide) rfl fx_81_63 (by decide) (D_Model_gathers 25 rfl) ?_
      refine j_iconst (v := 1) (D_Model_gathers 26 rfl) rfl ?_
      refine j_aloadn (k := 0) (D_Model_gathers 27 rfl) rfl rfl ?_
      refine j_iloadn (k := 2) (D_Model_gathers 28 rfl) rfl rfl ?_
      obtain ⟨q1, e1, h⟩ := Option.bind_eq_some_iff.mp h
      refine j_cVi (c_Model_worthOf (hx2) e1) rfl lk_Model_222 mok_Model_worthOf kd_81 lc_81 rfl (by decide) rfl rfl (Nat.le_of_ble_eq_true rfl) (D_Model_gathers 29 rfl) (fun w1 => ?_)
      refine j_iast (NI := 8) (D_Model_gathers 30 rfl) kd_122 lc_122 (wr_lit rfl) rfl (by decide) (by decide) ?_
      refine j_gen (fun G1 e2 => ?_)
      replace h := wG_at h e2
      refine j_aloadn (k := 0) (D_Model_gathers 31 rfl) rfl rfl ?_
      refine j_getR rfl fa_Model_136 kd_81 lc_81 (by decide) rfl fx_81_63 (by decide) (D_Model_gathers 32 rfl) ?_
      refine j_iconst (v := 2) (D_Model_gathers 33 rfl) rfl ?_
      refine j_iload (k := 4) (D_Model_gathers 34 rfl) rfl ?_
      refine j_iast (NI := 8) (D_Model_gathers 35 rfl) kd_122 lc_122 (wr_lit rfl) rfl (by decide) (by decide) ?_
      refine j_gen (fun G2 e3 => ?_)
      replace h := wG_at h e3
      refine j_aloadn (k := 0) (D_Model_gathers 36 rfl) rfl rfl ?_
      refine j_getR rfl fa_Model_136 kd_81 lc_81 (by decide) rfl fx_81_63 (by decide) (D_Model_gathers 37 rfl) ?_
      refine j_iconst (v := 3) (D_Model_gathers 38 rfl) rfl ?_
      refine j_aloadn (k := 0) (D_Model_gathers 39 rfl) rfl rfl ?_
      refine j_getR rfl fa_Model_34 kd_81 lc_81 (by decide) rfl fx_81_11 (by decide) (D_Model_gathers 40 rfl) ?_
      refine j_iloadn (k := 2) (D_Model_gathers 41 rfl) rfl rfl ?_
      have g1 := gd_c h
      replace h := gd_s h
      refine j_iald (NI := 12) (D_Model_gathers 42 rfl) kd_90 lc_90 (hx2) rfl g1.1 g1.2 ?_
      refine j_iast (NI := 8) (D_Model_gathers 43 rfl) kd_122 lc_122 (wr_lit rfl) rfl (by decide) (by decide) ?_
      refine j_gen (fun G3 e4 => ?_)
      replace h := wG_at h e4
      refine j_aloadn (k := 0) (D_Model_gathers 44 rfl) rfl rfl ?_
      refine j_getR rfl fa_Model_136 kd_81 lc_81 (by decide) rfl fx_81_63 (by decide) (D_Model_gathers 45 rfl) ?_
      refine j_iconst (v := 4) (D_Model_gathers 46 rfl) rfl ?_
      refine j_aloadn (k := 0) (D_Model_gathers 47 rfl) rfl rfl ?_
      refine j_getR rfl fa_Model_37 kd_81 lc_81 (by decide) rfl fx_81_12 (by decide) (D_Model_gathers 48 rfl) ?_
      refine j_iloadn (k := 2) (D_Model_gathers 49 rfl) rfl rfl ?_
      have g2 := gd_c h
      replace h := gd_s h
      refine j_iald (NI := 12) (D_Model_gathers 50 rfl) kd_91 lc_91 (hx2) rfl g2.1 g2.2 ?_
      refine j_iast (NI := 8) (D_Model_gathers 51 rfl) kd_122 lc_122 (wr_lit rfl) rfl (by decide) (by decide) ?_
      refine j_gen (fun G4 e5 => ?_)
      replace h := wG_at h e5
      refine j_aloadn (k := 0) (D_Model_gathers 52 rfl) rfl rfl ?_
      refine j_getR rfl fa_Model_136 kd_81 lc_81 (by decide) rfl fx_81_63 (by decide) (D_Model_gathers 53 rfl) ?_
      refine j_bipush (v := 6) (D_Model_gathers 54 rfl) rfl ?_
      refine j_aloadn (k := 0) (D_Model_gathers 55 rfl) rfl rfl ?_
      refine j_iloadn (k := 1) (D_Model_gathers 56 rfl) rfl rfl ?_
      refine j_iloadn (k := 2) (D_Model_gathers 57 rfl) rfl rfl ?_
      obtain ⟨q2, e6, h⟩ := Option.bind_eq_some_iff.mp h
      refine j_cVi (c_Model_heirsOf (hx1) (hx2) e6) rfl lk_Model_478 mok_Model_heirsOf kd_81 lc_81 rfl (by decide) rfl rfl (Nat.le_of_ble_eq_true rfl) (D_Model_gathers 58 rfl) (fun w2 => ?_)
      refine j_iast (NI := 8) (D_Model_gathers 59 rfl) kd_122 lc_122 (wr_lit rfl) rfl (by decide) (by decide) ?_
      refine j_gen (fun G5 e7 => ?_)
      replace h := wG_at h e7
      refine j_aloadn (k := 0) (D_Model_gathers 60 rfl) rfl rfl ?_
      refine j_getR rfl fa_Model_136 kd_81 lc_81 (by decide) rfl fx_81_63 (by decide) (D_Model_gathers 61 rfl) ?_
      refine j_iconst (v := 5) (D_Model_gathers 62 rfl) rfl ?_
      refine j_iconst (v := 0) (D_Model_gathers 63 rfl) rfl ?_
      refine j_iast (NI := 8) (D_Model_gathers 64 rfl) kd_122 lc_122 (wr_lit rfl) rfl (by decide) (by decide) ?_
      refine j_gen (fun G6 e8 => ?_)
      replace h := wG_at h e8
      refine j_aloadn (k := 0) (D_Model_gathers 65 rfl) rfl rfl ?_
      refine j_getR rfl fa_Model_136 kd_81 lc_81 (by decide) rfl fx_81_63 (by decide) (D_Model_gathers 66 rfl) ?_
      refine j_bipush (v := 7) (D_Model_gathers 67 rfl) rfl ?_
      refine j_iconst (v := 0) (D_Model_gathers 68 rfl) rfl ?_
      refine j_iast (NI := 8) (D_Model_gathers 69 rfl) kd_122 lc_122 (wr_lit rfl) rfl (by decide) (by decide) ?_
      refine j_gen (fun G7 e9 => ?_)
      replace h := wG_at h e9
      refine j_iloadn (k := 3) (D_Model_gathers 70 rfl) rfl rfl ?_
      refine j_iconst (v := (-1)) (D_Model_gathers 71 rfl) rfl ?_
      refine j_ic_ne (tgt := 121) (D_Model_gathers 72 rfl) rfl (hx3) (wr_lit rfl) (fun c2 => ?_) (fun c2 => ?_)
      · replace h := ite_f h c2
        refine j_aloadn (k := 0) (D_Model_gathers 74 rfl) rfl rfl ?_
        refine j_iloadn (k := 1) (D_Model_gathers 75 rfl) rfl rfl ?_
        refine j_iloadn (k := 2) (D_Model_gathers 76 rfl) rfl rfl ?_
        refine j_iloadn (k := 3) (D_Model_gathers 77 rfl) rfl rfl ?_
        refine j_iconst (v := 0) (D_Model_gathers 78 rfl) rfl ?_
        obtain ⟨q3, e10, h⟩ := Option.bind_eq_some_iff.mp h
        refine j_cVv (c_Model_partOf (hx1) (hx2) (hx3) (wr_lit rfl) e10) rfl lk_Model_472 mok_Model_partOf kd_81 lc_81 rfl (by decide) rfl rfl (Nat.le_of_ble_eq_true rfl) (D_Model_gathers 79 rfl) ?_
        refine j_aloadn (k := 0) (D_Model_gathers 80 rfl) rfl rfl ?_
        refine j_getR rfl fa_Model_136 kd_81 lc_81 (by decide) rfl fx_81_63 (by decide) (D_Model_gathers 81 rfl) ?_
        refine j_bipush (v := 7) (D_Model_gathers 82 rfl) rfl ?_
        refine j_ldc2 (v := 100) rfl ct_Model_484 (by decide) (D_Model_gathers 83 rfl) ?_
        refine j_aloadn (k := 0) (D_Model_gathers 84 rfl) rfl rfl ?_
        refine j_getJ rfl fa_Model_432 kd_81 lc_81 (by decide) rfl (D_Model_gathers 85 rfl) ?_
        refine j_lmul (D_Model_gathers 86 rfl) ?_
        refine j_aloadn (k := 0) (D_Model_gathers 87 rfl) rfl rfl ?_
        refine j_getJ rfl fa_Model_436 kd_81 lc_81 (by decide) rfl (D_Model_gathers 88 rfl) ?_
        have g3 := gd_c h
        replace h := gd_s h
        refine j_ldiv (D_Model_gathers 89 rfl) (wl_gl _ _ _) g3 ?_
        refine j_l2i (D_Model_gathers 90 rfl) ?_
        refine j_iast (NI := 8) (D_Model_gathers 91 rfl) kd_122 lc_122 (wr_lit rfl) rfl (by decide) (by decide) ?_
        refine j_gen (fun G8 e11 => ?_)
        replace h := wG_at h e11
        refine j_aloadn (k := 0) (D_Model_gathers 92 rfl) rfl rfl ?_
        refine j_getR rfl fa_Model_136 kd_81 lc_81 (by decide) rfl fx_81_63 (by decide) (D_Model_gathers 93 rfl) ?_
        refine j_iconst (v := 5) (D_Model_gathers 94 rfl) rfl ?_
        refine j_aloadn (k := 0) (D_Model_gathers 95 rfl) rfl rfl ?_
        refine j_getR rfl fa_Model_25 kd_81 lc_81 (by decide) rfl fx_81_7 (by decide) (D_Model_gathers 96 rfl) ?_
        refine j_iloadn (k := 1) (D_Model_gathers 97 rfl) rfl rfl ?_
        have g4 := gd_c h
        replace h := gd_s h
        refine j_iald (NI := 32) (D_Model_gathers 98 rfl) kd_87 lc_87 (hx1) rfl g4.1 g4.2 ?_
        refine j_aloadn (k := 0) (D_Model_gathers 99 rfl) rfl rfl ?_
        refine j_getR rfl fa_Model_22 kd_81 lc_81 (by decide) rfl fx_81_6 (by decide) (D_Model_gathers 100 rfl) ?_
        refine j_iloadn (k := 3) (D_Model_gathers 101 rfl) rfl rfl ?_
        have g5 := gd_c h
        replace h := gd_s h
        refine j_iald (NI := 32) (D_Model_gathers 102 rfl) kd_86 lc_86 (hx3) rfl g5.1 g5.2 ?_
        refine j_ic_le (tgt := 190) (D_Model_gathers 103 rfl) rfl (wr_gi _ _ _) (wr_gi _ _ _) (fun c3 => ?_) (fun c3 => ?_)
        · replace h := ite_t h c3
          refine j_iconst (v := 0) (D_Model_gathers 116 rfl) rfl ?_
          refine j_loc [0] rfl ?_
          exact s_Model_gathers_L191 (wr_lit rfl) (wr_lit rfl) h
        · replace h := ite_f h c3
          refine j_aloadn (k := 0) (D_Model_gathers 104 rfl) rfl rfl ?_
          refine j_getR rfl fa_Model_25 kd_81 lc_81 (by decide) rfl fx_81_7 (by decide) (D_Model_gathers 105 rfl) ?_
          refine j_iloadn (k := 1) (D_Model_gathers 106 rfl) rfl rfl ?_
          have g6 := gd_c h
          replace h := gd_s h
          refine j_iald (NI := 32) (D_Model_gathers 107 rfl) kd_87 lc_87 (hx1) rfl g6.1 g6.2 ?_
          refine j_aloadn (k := 0) (D_Model_gathers 108 rfl) rfl rfl ?_
          refine j_getR rfl fa_Model_22 kd_81 lc_81 (by decide) rfl fx_81_6 (by decide) (D_Model_gathers 109 rfl) ?_
          refine j_iloadn (k := 3) (D_Model_gathers 110 rfl) rfl rfl ?_
          have g7 := gd_c h
          replace h := gd_s h
          refine j_iald (NI := 32) (D_Model_gathers 111 rfl) kd_86 lc_86 (hx3) rfl g7.1 g7.2 ?_
          refine j_isub (D_Model_gathers 112 rfl) ?_
          refine j_sipush (v := 360) (D_Model_gathers 113 rfl) rfl ?_
          refine j_idiv (D_Model_gathers 114 rfl) (wr_lit rfl) (by decide) ?_
          refine j_goto (tgt := 191) (D_Model_gathers 115 rfl) rfl ?_
          refine j_loc [0] rfl ?_
          exact s_Model_gathers_L191 (wr_dv _ _) (wr_lit rfl) h
      · replace h := ite_t h c2
        exact j_vret (D_Model_gathers 73 rfl) rfl rfl rfl (leafV h)
    · replace h := ite_f h c1
      refine j_iload (k := 4) (D_Model_gathers 7 rfl) rfl ?_
      refine j_aloadn (k := 0) (D_Model_gathers 8 rfl) rfl rfl ?_
      refine j_getR rfl fa_Model_43 kd_81 lc_81 (by decide) rfl fx_81_14 (by decide) (D_Model_gathers 9 rfl) ?_
      refine j_bipush (v := 6) (D_Model_gathers 10 rfl) rfl ?_
      refine j_iloadn (k := 2) (D_Model_gathers 11 rfl) rfl rfl ?_
      refine j_imul (D_Model_gathers 12 rfl) ?_
      refine j_iload (k := 5) (D_Model_gathers 13 rfl) rfl ?_
      refine j_iadd (D_Model_gathers 14 rfl) ?_
      have g8 := gd_c h
      replace h := gd_s h
      refine j_iald (NI := 72) (D_Model_gathers 15 rfl) kd_93 lc_93 (rfl) rfl g8.1 g8.2 ?_
      refine j_if_le (tgt := 34) (D_Model_gathers 16 rfl) rfl (wr_gi _ _ _) (fun c4 => ?_) (fun c4 => ?_)
      · replace h := ite_t h c4
        refine j_iconst (v := 0) (D_Model_gathers 19 rfl) rfl ?_
        refine j_loc [0, 1, 2, 3, 5] rfl ?_
        exact s_Model_gathers_L35 ih (hx1) (hx2) (hx3) (hx5) (wr_lit rfl) (hx4) h
      · replace h := ite_f h c4
        refine j_iconst (v := 1) (D_Model_gathers 17 rfl) rfl ?_
        refine j_goto (tgt := 35) (D_Model_gathers 18 rfl) rfl ?_
        refine j_loc [0, 1, 2, 3, 5] rfl ?_
        exact s_Model_gathers_L35 ih (hx1) (hx2) (hx3) (hx5) (wr_lit rfl) (hx4) h
def f_Model_gathers (G : GS) (a1 : Int) (a2 : Int) (a3 : Int) : Option (GS) :=
  f_Model_gathers_L6 FU G a1 a2 a3 0 0
theorem c_Model_gathers {X : XT} {G : GS} {a1 : Int} {a2 : Int} {a3 : Int} {r : GS} (ha1 : wr a1 = a1) (ha2 : wr a2 = a2) (ha3 : wr a3 = a3) (h : f_Model_gathers G a1 a2 a3 = some r) : Call X true 14 0 0 M_Model_gathers [rf X 81, vi a1, vi a2, vi a3] NC G (Rv r) := by
  refine Call_of_J cw_Model_gathers (by decide +kernel) (Nat.le_of_ble_eq_true rfl) ?_
  unfold f_Model_gathers at h
  show J X true 14 0 0 M_Model_gathers (Rv r) NC 0 0 0 [(0, rf X 81), (1, vi a1), (2, vi a2), (3, vi a3)] [] G
  refine j_iconst (v := 0) (D_Model_gathers 0 rfl) rfl ?_
  refine j_istore (L' := [(4, vi 0), (0, rf X 81), (1, vi a1), (2, vi a2), (3, vi a3)]) (D_Model_gathers 1 rfl) (wr_lit rfl) (by decide) rfl ?_
  refine j_iconst (v := 0) (D_Model_gathers 2 rfl) rfl ?_
  refine j_istore (L' := [(5, vi 0), (4, vi 0), (0, rf X 81), (1, vi a1), (2, vi a2), (3, vi a3)]) (D_Model_gathers 3 rfl) (wr_lit rfl) (by decide) rfl ?_
  refine j_loc [2, 3, 4, 5, 1, 0] rfl ?_
  exact s_Model_gathers_L6 FU (ha1) (ha2) (ha3) (wr_lit rfl) (wr_lit rfl) h
abbrev M_Model_both : MI := (⟨"InquestHallModel", "both", "(III)I"⟩, prog_14_method_68_code, 3, (some .int))
theorem cw_Model_both : Cond.code M_Model_both.1 M_Model_both.2.1 M_Model_both.2.2.1 M_Model_both.2.2.2 ∈ TS := mTS (List.mem_of_getElem? (i := 1891) (by decide +kernel)) (by decide +kernel)
def tb_Model_both : List (Nat × Instr × Nat) := [(0, .iload_n 0, 1), (1, .tableswitch 100 8 16 #[51, 55, 59, 100, 63, 74, 85, 100, 96], 51), (52, .iload_n 1, 1), (53, .iload_n 2, 1), (54, .iadd, 1), (55, .ireturn, 1), (56, .iload_n 1, 1), (57, .iload_n 2, 1), (58, .isub, 1), (59, .ireturn, 1), (60, .iload_n 1, 1), (61, .iload_n 2, 1), (62, .imul, 1), (63, .ireturn, 1), (64, .iload_n 1, 1), (65, .iload_n 2, 1), (66, .if_icmp .ge 7, 3), (69, .iconst 1, 1), (70, .goto 4, 3), (73, .iconst 0, 1), (74, .ireturn, 1), (75, .iload_n 1, 1), (76, .iload_n 2, 1), (77, .if_icmp .ne 7, 3), (80, .iconst 1, 1), (81, .goto 4, 3), (84, .iconst 0, 1), (85, .ireturn, 1), (86, .iload_n 1, 1), (87, .iload_n 2, 1), (88, .if_icmp .le 7, 3), (91, .iconst 1, 1), (92, .goto 4, 3), (95, .iconst 0, 1), (96, .ireturn, 1), (97, .iload_n 1, 1), (98, .iload_n 2, 1), (99, .iand, 1), (100, .ireturn, 1), (101, .iload_n 1, 1), (102, .iload_n 2, 1), (103, .ior, 1), (104, .ireturn, 1)]
theorem D_Model_both (i : Nat) {pc len : Nat} {ins : Instr} (hi : tb_Model_both[i]? = some (pc, ins, len)) : decode M_Model_both.2.1 pc = .ok (ins, len) := dec_of (by decide +kernel) i hi
def f_Model_both (G : GS) (a0 : Int) (a1 : Int) (a2 : Int) : Option (Int) :=
  if a0 = 8 then
    some (wr (a1 + a2))
  else
    if a0 = 9 then
      some (wr (a1 - a2))
    else
      if a0 = 10 then
        some (wr (a1 * a2))
      else
        if a0 = 11 then
          some (bOr a1 a2)
        else
          if a0 = 12 then
            if a2 ≤ a1 then
              some 0
            else
              some 1
          else
            if a0 = 13 then
              if a1 = a2 then
                some 1
              else
                some 0
            else
              if a0 = 14 then
                if a1 ≤ a2 then
                  some 0
                else
                  some 1
              else
                if a0 = 15 then
                  some (bOr a1 a2)
                else
                  if a0 = 16 then
                    some (bAnd a1 a2)
                  else
                    some (bOr a1 a2)
theorem c_Model_both {X : XT} {G : GS} {a0 : Int} {a1 : Int} {a2 : Int} {r : Int} (ha0 : wr a0 = a0) (ha1 : wr a1 = a1) (ha2 : wr a2 = a2) (h : f_Model_both G a0 a1 a2 = some r) : Call X true 6 0 0 M_Model_both [vi a0, vi a1, vi a2] NC G (Ri r G) := by
  refine Call_of_J cw_Model_both (by decide +kernel) (Nat.le_of_ble_eq_true rfl) ?_
  unfold f_Model_both at h
  show J X true 6 0 0 M_Model_both (Ri r G) NC 0 0 0 [(0, vi a0), (1, vi a1), (2, vi a2)] [] G
  refine j_iloadn (k := 0) (D_Model_both 0 rfl) rfl rfl ?_
  by_cases c1 : a0 = 8
  · replace h := ite_t h c1
    refine j_tIn (tgt := 52) (D_Model_both 1 rfl) (ha0) c1 (by decide) (by decide) rfl rfl ?_
    refine j_iloadn (k := 1) (D_Model_both 2 rfl) rfl rfl ?_
    refine j_iloadn (k := 2) (D_Model_both 3 rfl) rfl rfl ?_
    refine j_iadd (D_Model_both 4 rfl) ?_
    exact j_iret (D_Model_both 5 rfl) rfl (rfl) rfl rfl (leafIo h (wr_n (rfl)))
  · replace h := ite_f h c1
    by_cases c2 : a0 = 9
    · replace h := ite_t h c2
      refine j_tIn (tgt := 56) (D_Model_both 1 rfl) (ha0) c2 (by decide) (by decide) rfl rfl ?_
      refine j_iloadn (k := 1) (D_Model_both 6 rfl) rfl rfl ?_
      refine j_iloadn (k := 2) (D_Model_both 7 rfl) rfl rfl ?_
      refine j_isub (D_Model_both 8 rfl) ?_
      exact j_iret (D_Model_both 9 rfl) rfl (rfl) rfl rfl (leafIo h (wr_n (rfl)))
    · replace h := ite_f h c2
      by_cases c3 : a0 = 10
      · replace h := ite_t h c3
        refine j_tIn (tgt := 60) (D_Model_both 1 rfl) (ha0) c3 (by decide) (by decide) rfl rfl ?_
        refine j_iloadn (k := 1) (D_Model_both 10 rfl) rfl rfl ?_
        refine j_iloadn (k := 2) (D_Model_both 11 rfl) rfl rfl ?_
        refine j_imul (D_Model_both 12 rfl) ?_
        exact j_iret (D_Model_both 13 rfl) rfl (rfl) rfl rfl (leafIo h (wr_n (rfl)))
      · replace h := ite_f h c3
        by_cases c4 : a0 = 11
        · replace h := ite_t h c4
          refine j_tIn (tgt := 101) (D_Model_both 1 rfl) (ha0) c4 (by decide) (by decide) rfl rfl ?_
          refine j_iloadn (k := 1) (D_Model_both 39 rfl) rfl rfl ?_
          refine j_iloadn (k := 2) (D_Model_both 40 rfl) rfl rfl ?_
          refine j_ior (D_Model_both 41 rfl) ?_
          exact j_iret (D_Model_both 42 rfl) rfl (wr_bOr _ _) rfl rfl (leafIo h (wr_n (wr_bOr _ _)))
        · replace h := ite_f h c4
          by_cases c5 : a0 = 12
          · replace h := ite_t h c5
            refine j_tIn (tgt := 64) (D_Model_both 1 rfl) (ha0) c5 (by decide) (by decide) rfl rfl ?_
            refine j_iloadn (k := 1) (D_Model_both 14 rfl) rfl rfl ?_
            refine j_iloadn (k := 2) (D_Model_both 15 rfl) rfl rfl ?_
            refine j_ic_ge (tgt := 73) (D_Model_both 16 rfl) rfl (ha1) (ha2) (fun c6 => ?_) (fun c6 => ?_)
            · replace h := ite_t h c6
              refine j_iconst (v := 0) (D_Model_both 19 rfl) rfl ?_
              exact j_iret (D_Model_both 20 rfl) rfl (wr_lit rfl) rfl rfl (leafIo h (wr_n (wr_lit rfl)))
            · replace h := ite_f h c6
              refine j_iconst (v := 1) (D_Model_both 17 rfl) rfl ?_
              refine j_goto (tgt := 74) (D_Model_both 18 rfl) rfl ?_
              exact j_iret (D_Model_both 20 rfl) rfl (wr_lit rfl) rfl rfl (leafIo h (wr_n (wr_lit rfl)))
          · replace h := ite_f h c5
            by_cases c7 : a0 = 13
            · replace h := ite_t h c7
              refine j_tIn (tgt := 75) (D_Model_both 1 rfl) (ha0) c7 (by decide) (by decide) rfl rfl ?_
              refine j_iloadn (k := 1) (D_Model_both 21 rfl) rfl rfl ?_
              refine j_iloadn (k := 2) (D_Model_both 22 rfl) rfl rfl ?_
              refine j_ic_ne (tgt := 84) (D_Model_both 23 rfl) rfl (ha1) (ha2) (fun c8 => ?_) (fun c8 => ?_)
              · replace h := ite_f h c8
                refine j_iconst (v := 0) (D_Model_both 26 rfl) rfl ?_
                exact j_iret (D_Model_both 27 rfl) rfl (wr_lit rfl) rfl rfl (leafIo h (wr_n (wr_lit rfl)))
              · replace h := ite_t h c8
                refine j_iconst (v := 1) (D_Model_both 24 rfl) rfl ?_
                refine j_goto (tgt := 85) (D_Model_both 25 rfl) rfl ?_
                exact j_iret (D_Model_both 27 rfl) rfl (wr_lit rfl) rfl rfl (leafIo h (wr_n (wr_lit rfl)))
            · replace h := ite_f h c7
              by_cases c9 : a0 = 14
              · replace h := ite_t h c9
                refine j_tIn (tgt := 86) (D_Model_both 1 rfl) (ha0) c9 (by decide) (by decide) rfl rfl ?_
                refine j_iloadn (k := 1) (D_Model_both 28 rfl) rfl rfl ?_
                refine j_iloadn (k := 2) (D_Model_both 29 rfl) rfl rfl ?_
                refine j_ic_le (tgt := 95) (D_Model_both 30 rfl) rfl (ha1) (ha2) (fun c10 => ?_) (fun c10 => ?_)
                · replace h := ite_t h c10
                  refine j_iconst (v := 0) (D_Model_both 33 rfl) rfl ?_
                  exact j_iret (D_Model_both 34 rfl) rfl (wr_lit rfl) rfl rfl (leafIo h (wr_n (wr_lit rfl)))
                · replace h := ite_f h c10
                  refine j_iconst (v := 1) (D_Model_both 31 rfl) rfl ?_
                  refine j_goto (tgt := 96) (D_Model_both 32 rfl) rfl ?_
                  exact j_iret (D_Model_both 34 rfl) rfl (wr_lit rfl) rfl rfl (leafIo h (wr_n (wr_lit rfl)))
              · replace h := ite_f h c9
                by_cases c11 : a0 = 15
                · replace h := ite_t h c11
                  refine j_tIn (tgt := 101) (D_Model_both 1 rfl) (ha0) c11 (by decide) (by decide) rfl rfl ?_
                  refine j_iloadn (k := 1) (D_Model_both 39 rfl) rfl rfl ?_
                  refine j_iloadn (k := 2) (D_Model_both 40 rfl) rfl rfl ?_
                  refine j_ior (D_Model_both 41 rfl) ?_
                  exact j_iret (D_Model_both 42 rfl) rfl (wr_bOr _ _) rfl rfl (leafIo h (wr_n (wr_bOr _ _)))
                · replace h := ite_f h c11
                  by_cases c12 : a0 = 16
                  · replace h := ite_t h c12
                    refine j_tIn (tgt := 97) (D_Model_both 1 rfl) (ha0) c12 (by decide) (by decide) rfl rfl ?_
                    refine j_iloadn (k := 1) (D_Model_both 35 rfl) rfl rfl ?_
                    refine j_iloadn (k := 2) (D_Model_both 36 rfl) rfl rfl ?_
                    refine j_iand (D_Model_both 37 rfl) ?_
                    exact j_iret (D_Model_both 38 rfl) rfl (wr_bAnd _ _) rfl rfl (leafIo h (wr_n (wr_bAnd _ _)))
                  · replace h := ite_f h c12
                    refine j_tOut (tgt := 101) (D_Model_both 1 rfl) (ha0) (by omega) rfl ?_
                    refine j_iloadn (k := 1) (D_Model_both 39 rfl) rfl rfl ?_
                    refine j_iloadn (k := 2) (D_Model_both 40 rfl) rfl rfl ?_
                    refine j_ior (D_Model_both 41 rfl) ?_
                    exact j_iret (D_Model_both 42 rfl) rfl (wr_bOr _ _) rfl rfl (leafIo h (wr_n (wr_bOr _ _)))
abbrev M_Model_comesTo : MI := (⟨"InquestHallModel", "comesTo", "(III)I"⟩, prog_14_method_69_code, 8, (some .int))
theorem cw_Model_comesTo : Cond.code M_Model_comesTo.1 M_Model_comesTo.2.1 M_Model_comesTo.2.2.1 M_Model_comesTo.2.2.2 ∈ TS := mTS (List.mem_of_getElem? (i := 1888) (by decide +kernel)) (by decide +kernel)
theorem fa_Model_118 : FA "InquestHallModel" 118 12 40 true (.array .int) := ⟨_, _, _, _, ok_Model, by decide, mTS (List.mem_of_getElem? (i := 1341) (by decide +kernel)) (by decide +kernel), rfl, rfl⟩
theorem fx_81_40 {G : GS} (w : WF true NC G) : G.2.2 81 40 = 118 := w.2 rfl (81, 40, 118) (by decide)
theorem kd_118 : kd 118 = (0, 820) := rfl
theorem lc_118 : 118 < NC := by decide
theorem lk_Model_486 : Cond.methodLink "InquestHallModel" 486 M_Model_both.1 ∈ TS := mTS (List.mem_of_getElem? (i := 1889) (by decide +kernel)) (by decide +kernel)
theorem sok_Model_both : SOK M_Model_both 3 := ⟨mTS (List.mem_of_getElem? (i := 1890) (by decide +kernel)) (by decide +kernel), mTS (List.mem_of_getElem? (i := 139) (by decide +kernel)) (by decide +kernel), cw_Model_both, ⟨by decide, by decide, by decide +kernel⟩, by decide +kernel, by decide⟩
def tb_Model_comesTo : List (Nat × Instr × Nat) := [(0, .iconst 0, 1), (1, .istore 4, 2), (3, .iload_n 2, 1), (4, .istore 5, 2), (6, .iload 5, 2), (8, .iload_n 3, 1), (9, .if_icmp .ge 169, 3), (12, .aload_n 0, 1), (13, .getfield 88, 3), (16, .sipush 1620, 3), (19, .iload_n 1, 1), (20, .imul, 1), (21, .iconst 2, 1), (22, .iload 5, 2), (24, .imul, 1), (25, .iadd, 1), (26, .iaload, 1), (27, .istore 6, 2), (29, .aload_n 0, 1), (30, .getfield 88, 3), (33, .sipush 1620, 3), (36, .iload_n 1, 1), (37, .imul, 1), (38, .iconst 2, 1), (39, .iload 5, 2), (41, .imul, 1), (42, .iadd, 1), (43, .iconst 1, 1), (44, .iadd, 1), (45, .iaload, 1), (46, .istore 7, 2), (48, .iload 6, 2), (50, .bipush 8, 2), (52, .if_icmp .ge 33, 3), (55, .aload_n 0, 1), (56, .getfield 118, 3), (59, .iload 4, 2), (61, .iload 6, 2), (63, .ifCond .ne 8, 3), (66, .iload 7, 2), (68, .goto 10, 3), (71, .aload_n 0, 1), (72, .getfield 136, 3), (75, .iload 6, 2), (77, .iaload, 1), (78, .iastore, 1), (79, .iinc 4 1, 3), (82, .goto 90, 3), (85, .iload 6, 2), (87, .bipush 11, 2), (89, .if_icmp .ne 20, 3), (92, .aload_n 0, 1), (93, .getfield 118, 3), (96, .iload 4, 2), (98, .iconst 1, 1), (99, .isub, 1), (100, .dup2, 1), (101, .iaload, 1), (102, .iload 7, 2), (104, .idiv, 1), (105, .iastore, 1), (106, .goto 66, 3), (109, .iload 6, 2), (111, .bipush 15, 2), (113, .if_icmp .ne 26, 3), (116, .aload_n 0, 1), (117, .getfield 118, 3), (120, .iload 4, 2), (122, .iconst 1, 1), (123, .isub, 1), (124, .iconst 1, 1), (125, .aload_n 0, 1), (126, .getfield 118, 3), (129, .iload 4, 2), (131, .iconst 1, 1), (132, .isub, 1), (133, .iaload, 1), (134, .isub, 1), (135, .iastore, 1), (136, .goto 36, 3), (139, .iinc 4 (-1), 3), (142, .aload_n 0, 1), (143, .getfield 118, 3), (146, .iload 4, 2), (148, .iconst 1, 1), (149, .isub, 1), (150, .iload 6, 2), (152, .aload_n 0, 1), (153, .getfield 118, 3), (156, .iload 4, 2), (158, .iconst 1, 1), (159, .isub, 1), (160, .iaload, 1), (161, .aload_n 0, 1), (162, .getfield 118, 3), (165, .iload 4, 2), (167, .iaload, 1), (168, .invokestatic 486, 3), (171, .iastore, 1), (172, .iinc 5 1, 3), (175, .goto (-169), 3), (178, .aload_n 0, 1), (179, .getfield 118, 3), (182, .iconst 0, 1), (183, .iaload, 1), (184, .ireturn, 1)]
theorem D_Model_comesTo (i : Nat) {pc len : Nat} {ins : Instr} (hi : tb_Model_comesTo[i]? = some (pc, ins, len)) : decode M_Model_comesTo.2.1 pc = .ok (ins, len) := dec_of (by decide +kernel) i hi
def f_Model_comesTo_L172 (k6 : GS → Int → Int → Int → Int → Option (Int × GS)) (G : GS) (x1 : Int) (x3 : Int) (x4 : Int) (x5 : Int) : Option (Int × GS) :=
  k6 G x1 x3 x4 (wr (x5 + 1))
theorem s_Model_comesTo_L172 {X : XT} {r : Int × GS} {k6 : GS → Int → Int → Int → Int → Option (Int × GS)} (hk6 : ∀ {G : GS} {x1 : Int} {x3 : Int} {x4 : Int} {x5 : Int} , wr x1 = x1 → wr x3 = x3 → wr x4 = x4 → wr x5 = x5 → k6 G x1 x3 x4 x5 = some r → J X true 7 0 0 M_Model_comesTo (Ri r.1 r.2) NC 0 0 6 [(0, rf X 81), (1, vi x1), (3, vi x3), (4, vi x4), (5, vi x5)] [] G) : ∀ {G : GS} {x1 : Int} {x3 : Int} {x4 : Int} {x5 : Int}, wr x1 = x1 → wr x3 = x3 → wr x4 = x4 → wr x5 = x5 → f_Model_comesTo_L172 k6 G x1 x3 x4 x5 = some r → J X true 7 0 0 M_Model_comesTo (Ri r.1 r.2) NC 0 0 172 [(0, rf X 81), (1, vi x1), (3, vi x3), (4, vi x4), (5, vi x5)] [] G := by
  intro G x1 x3 x4 x5 hx1 hx3 hx4 hx5 h
  unfold f_Model_comesTo_L172 at h
  refine j_iinc (k := 4) (L' := [(5, vi (wr (x5 + 1))), (0, rf X 81), (1, vi x1), (3, vi x3), (4, vi x4)]) (D_Model_comesTo 99 rfl) rfl rfl (by decide) rfl ?_
  refine j_goto (tgt := 6) (D_Model_comesTo 100 rfl) rfl ?_
  refine j_loc [1, 2, 3, 4, 0] rfl ?_
  exact hk6 (hx1) (hx3) (hx4) (wr_wr _) h
def f_Model_comesTo_L78 (k6 : GS → Int → Int → Int → Int → Option (Int × GS)) (G : GS) (x1 : Int) (x3 : Int) (x4 : Int) (x5 : Int) (s0 : Int) (s1 : Int) : Option (Int × GS) :=
  gd (0 ≤ s1 ∧ s1 < 820) <|
  wG (si G 118 s1.toNat s0) fun G1 =>
  f_Model_comesTo_L172 k6 G1 x1 x3 (wr (x4 + 1)) x5
theorem s_Model_comesTo_L78 {X : XT} {r : Int × GS} {k6 : GS → Int → Int → Int → Int → Option (Int × GS)} (hk6 : ∀ {G : GS} {x1 : Int} {x3 : Int} {x4 : Int} {x5 : Int} , wr x1 = x1 → wr x3 = x3 → wr x4 = x4 → wr x5 = x5 → k6 G x1 x3 x4 x5 = some r → J X true 7 0 0 M_Model_comesTo (Ri r.1 r.2) NC 0 0 6 [(0, rf X 81), (1, vi x1), (3, vi x3), (4, vi x4), (5, vi x5)] [] G) : ∀ {G : GS} {x1 : Int} {x3 : Int} {x4 : Int} {x5 : Int} {s0 : Int} {s1 : Int}, wr x1 = x1 → wr x3 = x3 → wr x4 = x4 → wr x5 = x5 → wr s0 = s0 → wr s1 = s1 → f_Model_comesTo_L78 k6 G x1 x3 x4 x5 s0 s1 = some r → J X true 7 0 0 M_Model_comesTo (Ri r.1 r.2) NC 0 0 78 [(0, rf X 81), (1, vi x1), (3, vi x3), (4, vi x4), (5, vi x5)] [vi s0, vi s1, rf X 118] G := by
  intro G x1 x3 x4 x5 s0 s1 hx1 hx3 hx4 hx5 hs0 hs1 h
  unfold f_Model_comesTo_L78 at h
  have g1 := gd_c h
  replace h := gd_s h
  refine j_iast (NI := 820) (D_Model_comesTo 45 rfl) kd_118 lc_118 (hs1) rfl g1.1 g1.2 ?_
  refine j_gen (fun G1 e1 => ?_)
  replace h := wG_at h e1
  refine j_iinc (k := 3) (L' := [(4, vi (wr (x4 + 1))), (0, rf X 81), (1, vi x1), (3, vi x3), (5, vi x5)]) (D_Model_comesTo 46 rfl) rfl rfl (by decide) rfl ?_
  refine j_goto (tgt := 172) (D_Model_comesTo 47 rfl) rfl ?_
  refine j_loc [1, 2, 3, 0, 4] rfl ?_
  exact s_Model_comesTo_L172 hk6 (hx1) (hx3) (wr_wr _) (hx5) h
def f_Model_comesTo_L6 : Nat → GS → Int → Int → Int → Int → Option (Int × GS)
  | 0, _, _, _, _, _ => none
  | n + 1, G, x1, x3, x4, x5 =>
    if x3 ≤ x5 then
      some (gi G 118 0, G)
    else
      gd (0 ≤ wr ((1620 * x1) + (2 * x5)) ∧ wr ((1620 * x1) + (2 * x5)) < 6480) <|
      gd (0 ≤ wr (((1620 * x1) + (2 * x5)) + 1) ∧ wr (((1620 * x1) + (2 * x5)) + 1) < 6480) <|
      if 8 ≤ gi G 108 (wr ((1620 * x1) + (2 * x5))).toNat then
        if gi G 108 (wr ((1620 * x1) + (2 * x5))).toNat = 11 then
          gd (0 ≤ wr (x4 - 1) ∧ wr (x4 - 1) < 820) <|
          gd (¬ gi G 108 (wr (((1620 * x1) + (2 * x5)) + 1)).toNat = 0) <|
          gd (0 ≤ wr (x4 - 1) ∧ wr (x4 - 1) < 820) <|
          wG (si G 118 (wr (x4 - 1)).toNat (dv (gi G 118 (wr (x4 - 1)).toNat) (gi G 108 (wr (((1620 * x1) + (2 * x5)) + 1)).toNat))) fun G3 =>
          f_Model_comesTo_L172 (f_Model_comesTo_L6 n) G3 x1 x3 x4 x5
        else
          if gi G 108 (wr ((1620 * x1) + (2 * x5))).toNat = 15 then
            gd (0 ≤ wr (x4 - 1) ∧ wr (x4 - 1) < 820) <|
            gd (0 ≤ wr (x4 - 1) ∧ wr (x4 - 1) < 820) <|
            wG (si G 118 (wr (x4 - 1)).toNat (1 - (gi G 118 (wr (x4 - 1)).toNat))) fun G2 =>
            f_Model_comesTo_L172 (f_Model_comesTo_L6 n) G2 x1 x3 x4 x5
          else
            gd (0 ≤ wr ((wr (x4 + (-1))) - 1) ∧ wr ((wr (x4 + (-1))) - 1) < 820) <|
            gd (0 ≤ wr (x4 + (-1)) ∧ wr (x4 + (-1)) < 820) <|
            (f_Model_both G (gi G 108 (wr ((1620 * x1) + (2 * x5))).toNat) (gi G 118 (wr ((wr (x4 + (-1))) - 1)).toNat) (gi G 118 (wr (x4 + (-1))).toNat)).bind fun q1 =>
            gd (0 ≤ wr ((wr (x4 + (-1))) - 1) ∧ wr ((wr (x4 + (-1))) - 1) < 820) <|
            wG (si G 118 (wr ((wr (x4 + (-1))) - 1)).toNat q1) fun G1 =>
            f_Model_comesTo_L172 (f_Model_comesTo_L6 n) G1 x1 x3 (wr (x4 + (-1))) x5
      else
        if gi G 108 (wr ((1620 * x1) + (2 * x5))).toNat = 0 then
          f_Model_comesTo_L78 (f_Model_comesTo_L6 n) G x1 x3 x4 x5 (gi G 108 (wr (((1620 * x1) + (2 * x5)) + 1)).toNat) x4
        else
          gd (0 ≤ gi G 108 (wr ((1620 * x1) + (2 * x5))).toNat ∧ gi G 108 (wr ((1620 * x1) + (2 * x5))).toNat < 8) <|
          f_Model_comesTo_L78 (f_Model_comesTo_L6 n) G x1 x3 x4 x5 (gi G 122 (gi G 108 (wr ((1620 * x1) + (2 * x5))).toNat).toNat) x4
theorem s_Model_comesTo_L6 {X : XT} {r : Int × GS} : ∀ (n : Nat) {G : GS} {x1 : Int} {x3 : Int} {x4 : Int} {x5 : Int}, wr x1 = x1 → wr x3 = x3 → wr x4 = x4 → wr x5 = x5 → f_Model_comesTo_L6 n G x1 x3 x4 x5 = some r → J X true 7 0 0 M_Model_comesTo (Ri r.1 r.2) NC 0 0 6 [(0, rf X 81), (1, vi x1), (3, vi x3), (4, vi x4), (5, vi x5)] [] G := by
  intro n
  induction n with
  | zero =>
    intro G x1 x3 x4 x5 hx1 hx3 hx4 hx5 h
    exact none_some h
  | succ n ih =>
    intro G x1 x3 x4 x5 hx1 hx3 hx4 hx5 h
    rw [f_Model_comesTo_L6] at h
    refine j_iload (k := 4) (D_Model_comesTo 4 rfl) rfl ?_
    refine j_iloadn (k := 2) (D_Model_comesTo 5 rfl) rfl rfl ?_
    refine j_ic_ge (tgt := 178) (D_Model_comesTo 6 rfl) rfl (hx5) (hx3) (fun c1 => ?_) (fun c1 => ?_)
    · replace h := ite_t h c1
      refine j_aloadn (k := 0) (D_Model_comesTo 101 rfl) rfl rfl ?_
      refine j_getR rfl fa_Model_118 kd_81 lc_81 (by decide) rfl fx_81_40 (by decide) (D_Model_comesTo 102 rfl) ?_
      refine j_iconst (v := 0) (D_Model_comesTo 103 rfl) rfl ?_
      refine j_iald (NI := 820) (D_Model_comesTo 104 rfl) kd_118 lc_118 (wr_lit rfl) rfl (by decide) (by decide) ?_
      exact j_iret (D_Model_comesTo 105 rfl) rfl (wr_gi _ _ _) rfl rfl (leafI h (wr_n (wr_gi _ _ _)))
    · replace h := ite_f h c1
      refine j_aloadn (k := 0) (D_Model_comesTo 7 rfl) rfl rfl ?_
      refine j_getR rfl fa_Model_88 kd_81 lc_81 (by decide) rfl fx_81_30 (by decide) (D_Model_comesTo 8 rfl) ?_
      refine j_sipush (v := 1620) (D_Model_comesTo 9 rfl) rfl ?_
      refine j_iloadn (k := 1) (D_Model_comesTo 10 rfl) rfl rfl ?_
      refine j_imul (D_Model_comesTo 11 rfl) ?_
      refine j_iconst (v := 2) (D_Model_comesTo 12 rfl) rfl ?_
      refine j_iload (k := 4) (D_Model_comesTo 13 rfl) rfl ?_
      refine j_imul (D_Model_comesTo 14 rfl) ?_
      refine j_iadd (D_Model_comesTo 15 rfl) ?_
      have g1 := gd_c h
      replace h := gd_s h
      refine j_iald (NI := 6480) (D_Model_comesTo 16 rfl) kd_108 lc_108 (rfl) rfl g1.1 g1.2 ?_
      refine j_istore (L' := [(6, vi (gi G 108 (wr ((1620 * x1) + (2 * x5))).toNat)), (0, rf X 81), (1, vi x1), (3, vi x3), (4, vi x4), (5, vi x5)]) (D_Model_comesTo 17 rfl) (wr_gi _ _ _) (by decide) rfl ?_
      refine j_aloadn (k := 1) (D_Model_comesTo 18 rfl) rfl rfl ?_
      refine j_getR rfl fa_Model_88 kd_81 lc_81 (by decide) rfl fx_81_30 (by decide) (D_Model_comesTo 19 rfl) ?_
      refine j_sipush (v := 1620) (D_Model_comesTo 20 rfl) rfl ?_
      refine j_iloadn (k := 2) (D_Model_comesTo 21 rfl) rfl rfl ?_
      refine j_imul (D_Model_comesTo 22 rfl) ?_
      refine j_iconst (v := 2) (D_Model_comesTo 23 rfl) rfl ?_
      refine j_iload (k := 5) (D_Model_comesTo 24 rfl) rfl ?_
      refine j_imul (D_Model_comesTo 25 rfl) ?_
      refine j_iadd (D_Model_comesTo 26 rfl) ?_
      refine j_iconst (v := 1) (D_Model_comesTo 27 rfl) rfl ?_
      refine j_iadd (D_Model_comesTo 28 rfl) ?_
      have g2 := gd_c h
      replace h := gd_s h
      refine j_iald (NI := 6480) (D_Model_comesTo 29 rfl) kd_108 lc_108 (rfl) rfl g2.1 g2.2 ?_
      refine j_istore (L' := [(7, vi (gi G 108 (wr (((1620 * x1) + (2 * x5)) + 1)).toNat)), (6, vi (gi G 108 (wr ((1620 * x1) + (2 * x5))).toNat)), (0, rf X 81), (1, vi x1), (3, vi x3), (4, vi x4), (5, vi x5)]) (D_Model_comesTo 30 rfl) (wr_gi _ _ _) (by decide) rfl ?_
      refine j_iload (k := 1) (D_Model_comesTo 31 rfl) rfl ?_
      refine j_bipush (v := 8) (D_Model_comesTo 32 rfl) rfl ?_
      refine j_ic_ge (tgt := 85) (D_Model_comesTo 33 rfl) rfl (wr_gi _ _ _) (wr_lit rfl) (fun c2 => ?_) (fun c2 => ?_)
      · replace h := ite_t h c2
        refine j_iload (k := 1) (D_Model_comesTo 48 rfl) rfl ?_
        refine j_bipush (v := 11) (D_Model_comesTo 49 rfl) rfl ?_
        refine j_ic_ne (tgt := 109) (D_Model_comesTo 50 rfl) rfl (wr_gi _ _ _) (wr_lit rfl) (fun c3 => ?_) (fun c3 => ?_)
        · replace h := ite_f h c3
          refine j_iload (k := 1) (D_Model_comesTo 62 rfl) rfl ?_
          refine j_bipush (v := 15) (D_Model_comesTo 63 rfl) rfl ?_
          refine j_ic_ne (tgt := 139) (D_Model_comesTo 64 rfl) rfl (wr_gi _ _ _) (wr_lit rfl) (fun c4 => ?_) (fun c4 => ?_)
          · replace h := ite_f h c4
            refine j_iinc (k := 5) (L' := [(4, vi (wr (x4 + (-1)))), (7, vi (gi G 108 (wr (((1620 * x1) + (2 * x5)) + 1)).toNat)), (6, vi (gi G 108 (wr ((1620 * x1) + (2 * x5))).toNat)), (0, rf X 81), (1, vi x1), (3, vi x3), (5, vi x5)]) (D_Model_comesTo 80 rfl) rfl rfl (by decide) rfl ?_
            refine j_aloadn (k := 3) (D_Model_comesTo 81 rfl) rfl rfl ?_
            refine j_getR rfl fa_Model_118 kd_81 lc_81 (by decide) rfl fx_81_40 (by decide) (D_Model_comesTo 82 rfl) ?_
            refine j_iload (k := 0) (D_Model_comesTo 83 rfl) rfl ?_
            refine j_iconst (v := 1) (D_Model_comesTo 84 rfl) rfl ?_
            refine j_isub (D_Model_comesTo 85 rfl) ?_
            refine j_iload (k := 2) (D_Model_comesTo 86 rfl) rfl ?_
            refine j_aloadn (k := 3) (D_Model_comesTo 87 rfl) rfl rfl ?_
            refine j_getR rfl fa_Model_118 kd_81 lc_81 (by decide) rfl fx_81_40 (by decide) (D_Model_comesTo 88 rfl) ?_
            refine j_iload (k := 0) (D_Model_comesTo 89 rfl) rfl ?_
            refine j_iconst (v := 1) (D_Model_comesTo 90 rfl) rfl ?_
            refine j_isub (D_Model_comesTo 91 rfl) ?_
            have g3 := gd_c h
            replace h := gd_s h
            refine j_iald (NI := 820) (D_Model_comesTo 92 rfl) kd_118 lc_118 (rfl) rfl g3.1 g3.2 ?_
            refine j_aloadn (k := 3) (D_Model_comesTo 93 rfl) rfl rfl ?_
            refine j_getR rfl fa_Model_118 kd_81 lc_81 (by decide) rfl fx_81_40 (by decide) (D_Model_comesTo 94 rfl) ?_
            refine j_iload (k := 0) (D_Model_comesTo 95 rfl) rfl ?_
            have g4 := gd_c h
            replace h := gd_s h
            refine j_iald (NI := 820) (D_Model_comesTo 96 rfl) kd_118 lc_118 (wr_wr _) rfl g4.1 g4.2 ?_
            obtain ⟨q1, e1, h⟩ := Option.bind_eq_some_iff.mp h
            refine j_cSi (c_Model_both (wr_gi _ _ _) (wr_gi _ _ _) (wr_gi _ _ _) e1) rfl lk_Model_486 sok_Model_both (by decide) rfl rfl (Nat.le_of_ble_eq_true rfl) (D_Model_comesTo 97 rfl) (fun w1 => ?_)
            have g5 := gd_c h
            replace h := gd_s h
            refine j_iast (NI := 820) (D_Model_comesTo 98 rfl) kd_118 lc_118 (rfl) rfl g5.1 g5.2 ?_
            refine j_gen (fun G1 e2 => ?_)
            replace h := wG_at h e2
            refine j_loc [3, 4, 5, 0, 6] rfl ?_
            exact s_Model_comesTo_L172 ih (hx1) (hx3) (wr_wr _) (hx5) h
          · replace h := ite_t h c4
            refine j_aloadn (k := 2) (D_Model_comesTo 65 rfl) rfl rfl ?_
            refine j_getR rfl fa_Model_118 kd_81 lc_81 (by decide) rfl fx_81_40 (by decide) (D_Model_comesTo 66 rfl) ?_
            refine j_iload (k := 5) (D_Model_comesTo 67 rfl) rfl ?_
            refine j_iconst (v := 1) (D_Model_comesTo 68 rfl) rfl ?_
            refine j_isub (D_Model_comesTo 69 rfl) ?_
            refine j_iconst (v := 1) (D_Model_comesTo 70 rfl) rfl ?_
            refine j_aloadn (k := 2) (D_Model_comesTo 71 rfl) rfl rfl ?_
            refine j_getR rfl fa_Model_118 kd_81 lc_81 (by decide) rfl fx_81_40 (by decide) (D_Model_comesTo 72 rfl) ?_
            refine j_iload (k := 5) (D_Model_comesTo 73 rfl) rfl ?_
            refine j_iconst (v := 1) (D_Model_comesTo 74 rfl) rfl ?_
            refine j_isub (D_Model_comesTo 75 rfl) ?_
            have g6 := gd_c h
            replace h := gd_s h
            refine j_iald (NI := 820) (D_Model_comesTo 76 rfl) kd_118 lc_118 (rfl) rfl g6.1 g6.2 ?_
            refine j_isub (D_Model_comesTo 77 rfl) ?_
            have g7 := gd_c h
            replace h := gd_s h
            refine j_iast (NI := 820) (D_Model_comesTo 78 rfl) kd_118 lc_118 (rfl) rfl g7.1 g7.2 ?_
            refine j_gen (fun G2 e3 => ?_)
            replace h := wG_at h e3
            refine j_goto (tgt := 172) (D_Model_comesTo 79 rfl) rfl ?_
            refine j_loc [2, 3, 4, 5, 6] rfl ?_
            exact s_Model_comesTo_L172 ih (hx1) (hx3) (hx4) (hx5) h
        · replace h := ite_t h c3
          refine j_aloadn (k := 2) (D_Model_comesTo 51 rfl) rfl rfl ?_
          refine j_getR rfl fa_Model_118 kd_81 lc_81 (by decide) rfl fx_81_40 (by decide) (D_Model_comesTo 52 rfl) ?_
          refine j_iload (k := 5) (D_Model_comesTo 53 rfl) rfl ?_
          refine j_iconst (v := 1) (D_Model_comesTo 54 rfl) rfl ?_
          refine j_isub (D_Model_comesTo 55 rfl) ?_
          refine j_dup2 (D_Model_comesTo 56 rfl) rfl rfl ?_
          have g8 := gd_c h
          replace h := gd_s h
          refine j_iald (NI := 820) (D_Model_comesTo 57 rfl) kd_118 lc_118 (rfl) rfl g8.1 g8.2 ?_
          refine j_iload (k := 0) (D_Model_comesTo 58 rfl) rfl ?_
          have g9 := gd_c h
          replace h := gd_s h
          refine j_idiv (D_Model_comesTo 59 rfl) (wr_gi _ _ _) g9 ?_
          have g10 := gd_c h
          replace h := gd_s h
          refine j_iast (NI := 820) (D_Model_comesTo 60 rfl) kd_118 lc_118 (rfl) rfl g10.1 g10.2 ?_
          refine j_gen (fun G3 e4 => ?_)
          replace h := wG_at h e4
          refine j_goto (tgt := 172) (D_Model_comesTo 61 rfl) rfl ?_
          refine j_loc [2, 3, 4, 5, 6] rfl ?_
          exact s_Model_comesTo_L172 ih (hx1) (hx3) (hx4) (hx5) h
      · replace h := ite_f h c2
        refine j_aloadn (k := 2) (D_Model_comesTo 34 rfl) rfl rfl ?_
        refine j_getR rfl fa_Model_118 kd_81 lc_81 (by decide) rfl fx_81_40 (by decide) (D_Model_comesTo 35 rfl) ?_
        refine j_iload (k := 5) (D_Model_comesTo 36 rfl) rfl ?_
        refine j_iload (k := 1) (D_Model_comesTo 37 rfl) rfl ?_
        refine j_if_ne (tgt := 71) (D_Model_comesTo 38 rfl) rfl (wr_gi _ _ _) (fun c5 => ?_) (fun c5 => ?_)
        · replace h := ite_f h c5
          refine j_aloadn (k := 2) (D_Model_comesTo 41 rfl) rfl rfl ?_
          refine j_getR rfl fa_Model_136 kd_81 lc_81 (by decide) rfl fx_81_63 (by decide) (D_Model_comesTo 42 rfl) ?_
          refine j_iload (k := 1) (D_Model_comesTo 43 rfl) rfl ?_
          have g11 := gd_c h
          replace h := gd_s h
          refine j_iald (NI := 8) (D_Model_comesTo 44 rfl) kd_122 lc_122 (wr_gi _ _ _) rfl g11.1 g11.2 ?_
          refine j_loc [2, 3, 4, 5, 6] rfl ?_
          exact s_Model_comesTo_L78 ih (hx1) (hx3) (hx4) (hx5) (wr_gi _ _ _) (hx4) h
        · replace h := ite_t h c5
          refine j_iload (k := 0) (D_Model_comesTo 39 rfl) rfl ?_
          refine j_goto (tgt := 78) (D_Model_comesTo 40 rfl) rfl ?_
          refine j_loc [2, 3, 4, 5, 6] rfl ?_
          exact s_Model_comesTo_L78 ih (hx1) (hx3) (hx4) (hx5) (wr_gi _ _ _) (hx4) h
def f_Model_comesTo (G : GS) (a1 : Int) (a2 : Int) (a3 : Int) : Option (Int × GS) :=
  f_Model_comesTo_L6 FU G a1 a3 0 a2
theorem c_Model_comesTo {X : XT} {G : GS} {a1 : Int} {a2 : Int} {a3 : Int} {r : Int × GS} (ha1 : wr a1 = a1) (ha2 : wr a2 = a2) (ha3 : wr a3 = a3) (h : f_Model_comesTo G a1 a2 a3 = some r) : Call X true 7 0 0 M_Model_comesTo [rf X 81, vi a1, vi a2, vi a3] NC G (Ri r.1 r.2) := by
  refine Call_of_J cw_Model_comesTo (by decide +kernel) (Nat.le_of_ble_eq_true rfl) ?_
  unfold f_Model_comesTo at h
  show J X true 7 0 0 M_Model_comesTo (Ri r.1 r.2) NC 0 0 0 [(0, rf X 81), (1, vi a1), (2, vi a2), (3, vi a3)] [] G
  refine j_iconst (v := 0) (D_Model_comesTo 0 rfl) rfl ?_
  refine j_istore (L' := [(4, vi 0), (0, rf X 81), (1, vi a1), (2, vi a2), (3, vi a3)]) (D_Model_comesTo 1 rfl) (wr_lit rfl) (by decide) rfl ?_
  refine j_iloadn (k := 3) (D_Model_comesTo 2 rfl) rfl rfl ?_
  refine j_istore (L' := [(5, vi a2), (4, vi 0), (0, rf X 81), (1, vi a1), (2, vi a2), (3, vi a3)]) (D_Model_comesTo 3 rfl) (ha2) (by decide) rfl ?_
  refine j_loc [2, 3, 5, 1, 0] rfl ?_
  exact s_Model_comesTo_L6 FU (ha1) (ha3) (wr_lit rfl) (ha2) h
