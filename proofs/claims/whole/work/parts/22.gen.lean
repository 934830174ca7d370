/-! printed by wip/whole/gen.py out of the listing of the bytecode -/
abbrev M_Model_isKings : MI := (⟨"InquestHallModel", "isKings", "(II)Z"⟩, prog_14_method_73_code, 7, (some .boolean))
theorem cw_Model_isKings : Cond.code M_Model_isKings.1 M_Model_isKings.2.1 M_Model_isKings.2.2.1 M_Model_isKings.2.2.2 ∈ TS := mTS (List.mem_of_getElem? (i := 1875) (by decide +kernel)) (by decide +kernel)
theorem lk_Model_493 : Cond.methodLink "InquestHallModel" 493 M_Model_holderOf.1 ∈ TS := mTS (List.mem_of_getElem? (i := 1876) (by decide +kernel)) (by decide +kernel)
theorem mok_Model_holderOf : MOK M_Model_holderOf 3 := ⟨mTS (List.mem_of_getElem? (i := 1878) (by decide +kernel)) (by decide +kernel), mTS (List.mem_of_getElem? (i := 106) (by decide +kernel)) (by decide +kernel), mTS (List.mem_of_getElem? (i := 139) (by decide +kernel)) (by decide +kernel), cw_Model_holderOf, ⟨by decide, by decide, by decide +kernel⟩, by decide +kernel, by decide⟩
theorem lk_Model_499 : Cond.methodLink "InquestHallModel" 499 M_Model_gathers.1 ∈ TS := mTS (List.mem_of_getElem? (i := 1880) (by decide +kernel)) (by decide +kernel)
theorem mok_Model_gathers : MOK M_Model_gathers 3 := ⟨mTS (List.mem_of_getElem? (i := 1882) (by decide +kernel)) (by decide +kernel), mTS (List.mem_of_getElem? (i := 107) (by decide +kernel)) (by decide +kernel), mTS (List.mem_of_getElem? (i := 139) (by decide +kernel)) (by decide +kernel), cw_Model_gathers, ⟨by decide, by decide, by decide +kernel⟩, by decide +kernel, by decide⟩
theorem lk_Model_496 : Cond.methodLink "InquestHallModel" 496 M_Model_isHeir.1 ∈ TS := mTS (List.mem_of_getElem? (i := 1859) (by decide +kernel)) (by decide +kernel)
theorem mok_Model_isHeir : MOK M_Model_isHeir 3 := ⟨mTS (List.mem_of_getElem? (i := 1861) (by decide +kernel)) (by decide +kernel), mTS (List.mem_of_getElem? (i := 102) (by decide +kernel)) (by decide +kernel), mTS (List.mem_of_getElem? (i := 139) (by decide +kernel)) (by decide +kernel), cw_Model_isHeir, ⟨by decide, by decide, by decide +kernel⟩, by decide +kernel, by decide⟩
theorem lk_Model_503 : Cond.methodLink "InquestHallModel" 503 M_Model_comesTo.1 ∈ TS := mTS (List.mem_of_getElem? (i := 1885) (by decide +kernel)) (by decide +kernel)
theorem mok_Model_comesTo : MOK M_Model_comesTo 3 := ⟨mTS (List.mem_of_getElem? (i := 1887) (by decide +kernel)) (by decide +kernel), mTS (List.mem_of_getElem? (i := 108) (by decide +kernel)) (by decide +kernel), mTS (List.mem_of_getElem? (i := 139) (by decide +kernel)) (by decide +kernel), cw_Model_comesTo, ⟨by decide, by decide, by decide +kernel⟩, by decide +kernel, by decide⟩
def tb_Model_isKings : List (Nat × Instr × Nat) := [(0, .iconst 0, 1), (1, .istore_n 3, 1), (2, .iload_n 3, 1), (3, .aload_n 0, 1), (4, .getfield 212, 3), (7, .if_icmp .ge 60, 3), (10, .aload_n 0, 1), (11, .getfield 25, 3), (14, .iload_n 1, 1), (15, .iaload, 1), (16, .ifCond .le 45, 3), (19, .aload_n 0, 1), (20, .getfield 40, 3), (23, .iload_n 3, 1), (24, .iaload, 1), (25, .iconst (-1), 1), (26, .if_icmp .ne 35, 3), (29, .aload_n 0, 1), (30, .getfield 37, 3), (33, .iload_n 3, 1), (34, .iaload, 1), (35, .ifCond .ne 26, 3), (38, .aload_n 0, 1), (39, .iload_n 3, 1), (40, .aload_n 0, 1), (41, .getfield 25, 3), (44, .iload_n 1, 1), (45, .iaload, 1), (46, .iconst 1, 1), (47, .isub, 1), (48, .aload_n 0, 1), (49, .getfield 192, 3), (52, .invokevirtual 493, 3), (55, .iload_n 1, 1), (56, .if_icmp .ne 5, 3), (59, .iconst 1, 1), (60, .ireturn, 1), (61, .iinc 3 1, 3), (64, .goto (-62), 3), (67, .iconst (-1), 1), (68, .istore_n 3, 1), (69, .aload_n 0, 1), (70, .getfield 195, 3), (73, .iconst 1, 1), (74, .isub, 1), (75, .istore 4, 2), (77, .iload 4, 2), (79, .ifCond .lt 23, 3), (82, .aload_n 0, 1), (83, .iload_n 1, 1), (84, .iload_n 2, 1), (85, .iload 4, 2), (87, .invokevirtual 496, 3), (90, .ifCond .eq 6, 3), (93, .iload 4, 2), (95, .istore_n 3, 1), (96, .iinc 4 (-1), 3), (99, .goto (-22), 3), (102, .aload_n 0, 1), (103, .iload_n 1, 1), (104, .iload_n 2, 1), (105, .iload_n 3, 1), (106, .invokevirtual 499, 3), (109, .aload_n 0, 1), (110, .aload_n 0, 1), (111, .getfield 25, 3), (114, .iload_n 1, 1), (115, .iaload, 1), (116, .invokevirtual 417, 3), (119, .istore 4, 2), (121, .iconst 0, 1), (122, .istore 5, 2), (124, .iconst 0, 1), (125, .istore 6, 2), (127, .iload 6, 2), (129, .aload_n 0, 1), (130, .getfield 76, 3), (133, .iload 4, 2), (135, .iaload, 1), (136, .if_icmp .ge 77, 3), (139, .iload 5, 2), (141, .ifCond .ne 59, 3), (144, .aload_n 0, 1), (145, .getfield 79, 3), (148, .bipush 30, 2), (150, .iload 4, 2), (152, .imul, 1), (153, .iload 6, 2), (155, .iadd, 1), (156, .iaload, 1), (157, .bipush 9, 2), (159, .if_icmp .ne 45, 3), (162, .aload_n 0, 1), (163, .iload 4, 2), (165, .aload_n 0, 1), (166, .getfield 82, 3), (169, .bipush 31, 2), (171, .iload 4, 2), (173, .imul, 1), (174, .iload 6, 2), (176, .iadd, 1), (177, .iaload, 1), (178, .aload_n 0, 1), (179, .getfield 82, 3), (182, .bipush 31, 2), (184, .iload 4, 2), (186, .imul, 1), (187, .iload 6, 2), (189, .iadd, 1), (190, .iconst 1, 1), (191, .iadd, 1), (192, .iaload, 1), (193, .invokevirtual 503, 3), (196, .iconst 1, 1), (197, .if_icmp .ne 7, 3), (200, .iconst 1, 1), (201, .goto 4, 3), (204, .iconst 0, 1), (205, .istore 5, 2), (207, .iinc 6 1, 3), (210, .goto (-83), 3), (213, .iload 5, 2), (215, .ireturn, 1)]
theorem D_Model_isKings (i : Nat) {pc len : Nat} {ins : Instr} (hi : tb_Model_isKings[i]? = some (pc, ins, len)) : decode M_Model_isKings.2.1 pc = .ok (ins, len) := dec_of (by decide +kernel) i hi
def f_Model_isKings_L205 (k127 : GS → Int → Int → Int → Option (Int × GS)) (G : GS) (x4 : Int) (x6 : Int) (s0 : Int) : Option (Int × GS) :=
  k127 G x4 s0 (wr (x6 + 1))
theorem s_Model_isKings_L205 {X : XT} {r : Int × GS} {k127 : GS → Int → Int → Int → Option (Int × GS)} (hk127 : ∀ {G : GS} {x4 : Int} {x5 : Int} {x6 : Int} , wr x4 = x4 → wr x5 = x5 → wr x6 = x6 → k127 G x4 x5 x6 = some r → J X true 15 0 0 M_Model_isKings (Rz r.1 r.2) NC 0 0 127 [(0, rf X 81), (4, vi x4), (5, vi x5), (6, vi x6)] [] G) : ∀ {G : GS} {x4 : Int} {x6 : Int} {s0 : Int}, wr x4 = x4 → wr x6 = x6 → wr s0 = s0 → f_Model_isKings_L205 k127 G x4 x6 s0 = some r → J X true 15 0 0 M_Model_isKings (Rz r.1 r.2) NC 0 0 205 [(0, rf X 81), (4, vi x4), (6, vi x6)] [vi s0] G := by
  intro G x4 x6 s0 hx4 hx6 hs0 h
  unfold f_Model_isKings_L205 at h
  refine j_istore (L' := [(5, vi s0), (0, rf X 81), (4, vi x4), (6, vi x6)]) (D_Model_isKings 118 rfl) (hs0) (by decide) rfl ?_
  refine j_iinc (k := 3) (L' := [(6, vi (wr (x6 + 1))), (5, vi s0), (0, rf X 81), (4, vi x4)]) (D_Model_isKings 119 rfl) rfl rfl (by decide) rfl ?_
  refine j_goto (tgt := 127) (D_Model_isKings 120 rfl) rfl ?_
  refine j_loc [2, 3, 1, 0] rfl ?_
  exact hk127 (hx4) (hs0) (wr_wr _) h
def f_Model_isKings_L200 (k127 : GS → Int → Int → Int → Option (Int × GS)) (G : GS) (x4 : Int) (x6 : Int) : Option (Int × GS) :=
  f_Model_isKings_L205 k127 G x4 x6 1
theorem s_Model_isKings_L200 {X : XT} {r : Int × GS} {k127 : GS → Int → Int → Int → Option (Int × GS)} (hk127 : ∀ {G : GS} {x4 : Int} {x5 : Int} {x6 : Int} , wr x4 = x4 → wr x5 = x5 → wr x6 = x6 → k127 G x4 x5 x6 = some r → J X true 15 0 0 M_Model_isKings (Rz r.1 r.2) NC 0 0 127 [(0, rf X 81), (4, vi x4), (5, vi x5), (6, vi x6)] [] G) : ∀ {G : GS} {x4 : Int} {x6 : Int}, wr x4 = x4 → wr x6 = x6 → f_Model_isKings_L200 k127 G x4 x6 = some r → J X true 15 0 0 M_Model_isKings (Rz r.1 r.2) NC 0 0 200 [(0, rf X 81), (4, vi x4), (6, vi x6)] [] G := by
  intro G x4 x6 hx4 hx6 h
  unfold f_Model_isKings_L200 at h
  refine j_iconst (v := 1) (D_Model_isKings 115 rfl) rfl ?_
  refine j_goto (tgt := 205) (D_Model_isKings 116 rfl) rfl ?_
  refine j_loc [0, 1, 2] rfl ?_
  exact s_Model_isKings_L205 hk127 (hx4) (hx6) (wr_lit rfl) h
def f_Model_isKings_L204 (k127 : GS → Int → Int → Int → Option (Int × GS)) (G : GS) (x4 : Int) (x6 : Int) : Option (Int × GS) :=
  f_Model_isKings_L205 k127 G x4 x6 0
theorem s_Model_isKings_L204 {X : XT} {r : Int × GS} {k127 : GS → Int → Int → Int → Option (Int × GS)} (hk127 : ∀ {G : GS} {x4 : Int} {x5 : Int} {x6 : Int} , wr x4 = x4 → wr x5 = x5 → wr x6 = x6 → k127 G x4 x5 x6 = some r → J X true 15 0 0 M_Model_isKings (Rz r.1 r.2) NC 0 0 127 [(0, rf X 81), (4, vi x4), (5, vi x5), (6, vi x6)] [] G) : ∀ {G : GS} {x4 : Int} {x6 : Int}, wr x4 = x4 → wr x6 = x6 → f_Model_isKings_L204 k127 G x4 x6 = some r → J X true 15 0 0 M_Model_isKings (Rz r.1 r.2) NC 0 0 204 [(0, rf X 81), (4, vi x4), (6, vi x6)] [] G := by
  intro G x4 x6 hx4 hx6 h
  unfold f_Model_isKings_L204 at h
  refine j_iconst (v := 0) (D_Model_isKings 117 rfl) rfl ?_
  refine j_loc [0, 1, 2] rfl ?_
  exact s_Model_isKings_L205 hk127 (hx4) (hx6) (wr_lit rfl) h
def f_Model_isKings_L127 : Nat → GS → Int → Int → Int → Option (Int × GS)
  | 0, _, _, _, _ => none
  | n + 1, G, x4, x5, x6 =>
    gd (0 ≤ x4 ∧ x4 < 4) <|
    if gi G 104 x4.toNat ≤ x6 then
      gd (x5 = 0 ∨ x5 = 1) <|
      some (x5, G)
    else
      if x5 = 0 then
        gd (0 ≤ wr ((30 * x4) + x6) ∧ wr ((30 * x4) + x6) < 120) <|
        if gi G 105 (wr ((30 * x4) + x6)).toNat = 9 then
          gd (0 ≤ wr ((31 * x4) + x6) ∧ wr ((31 * x4) + x6) < 124) <|
          gd (0 ≤ wr (((31 * x4) + x6) + 1) ∧ wr (((31 * x4) + x6) + 1) < 124) <|
          (f_Model_comesTo G x4 (gi G 106 (wr ((31 * x4) + x6)).toNat) (gi G 106 (wr (((31 * x4) + x6) + 1)).toNat)).bind fun q1 =>
          if q1.1 = 1 then
            f_Model_isKings_L200 (f_Model_isKings_L127 n) q1.2 x4 x6
          else
            f_Model_isKings_L204 (f_Model_isKings_L127 n) q1.2 x4 x6
        else
          f_Model_isKings_L204 (f_Model_isKings_L127 n) G x4 x6
      else
        f_Model_isKings_L200 (f_Model_isKings_L127 n) G x4 x6
theorem s_Model_isKings_L127 {X : XT} {r : Int × GS} : ∀ (n : Nat) {G : GS} {x4 : Int} {x5 : Int} {x6 : Int}, wr x4 = x4 → wr x5 = x5 → wr x6 = x6 → f_Model_isKings_L127 n G x4 x5 x6 = some r → J X true 15 0 0 M_Model_isKings (Rz r.1 r.2) NC 0 0 127 [(0, rf X 81), (4, vi x4), (5, vi x5), (6, vi x6)] [] G := by
  intro n
  induction n with
  | zero =>
    intro G x4 x5 x6 hx4 hx5 hx6 h
    exact none_some h
  | succ n ih =>
    intro G x4 x5 x6 hx4 hx5 hx6 h
    rw [f_Model_isKings_L127] at h
    refine j_iload (k := 3) (D_Model_isKings 74 rfl) rfl ?_
    refine j_aloadn (k := 0) (D_Model_isKings 75 rfl) rfl rfl ?_
    refine j_getR rfl fa_Model_76 kd_81 lc_81 (by decide) rfl fx_81_26 (by decide) (D_Model_isKings 76 rfl) ?_
    refine j_iload (k := 1) (D_Model_isKings 77 rfl) rfl ?_
    have g1 := gd_c h
    replace h := gd_s h
    refine j_iald (NI := 4) (D_Model_isKings 78 rfl) kd_104 lc_104 (hx4) rfl g1.1 g1.2 ?_
    refine j_ic_ge (tgt := 213) (D_Model_isKings 79 rfl) rfl (hx6) (wr_gi _ _ _) (fun c1 => ?_) (fun c1 => ?_)
    · replace h := ite_t h c1
      refine j_iload (k := 2) (D_Model_isKings 121 rfl) rfl ?_
      have g2 := gd_c h
      replace h := gd_s h
      exact j_zret (D_Model_isKings 122 rfl) rfl (hx5) (nz_01 g2) rfl rfl (leafZ h (wr_n (hx5)) g2)
    · replace h := ite_f h c1
      refine j_iload (k := 2) (D_Model_isKings 80 rfl) rfl ?_
      refine j_if_ne (tgt := 200) (D_Model_isKings 81 rfl) rfl (hx5) (fun c2 => ?_) (fun c2 => ?_)
      · replace h := ite_f h c2
        refine j_loc [0, 1, 3] rfl ?_
        exact s_Model_isKings_L200 ih (hx4) (hx6) h
      · replace h := ite_t h c2
        refine j_aloadn (k := 0) (D_Model_isKings 82 rfl) rfl rfl ?_
        refine j_getR rfl fa_Model_79 kd_81 lc_81 (by decide) rfl fx_81_27 (by decide) (D_Model_isKings 83 rfl) ?_
        refine j_bipush (v := 30) (D_Model_isKings 84 rfl) rfl ?_
        refine j_iload (k := 1) (D_Model_isKings 85 rfl) rfl ?_
        refine j_imul (D_Model_isKings 86 rfl) ?_
        refine j_iload (k := 3) (D_Model_isKings 87 rfl) rfl ?_
        refine j_iadd (D_Model_isKings 88 rfl) ?_
        have g3 := gd_c h
        replace h := gd_s h
        refine j_iald (NI := 120) (D_Model_isKings 89 rfl) kd_105 lc_105 (rfl) rfl g3.1 g3.2 ?_
        refine j_bipush (v := 9) (D_Model_isKings 90 rfl) rfl ?_
        refine j_ic_ne (tgt := 204) (D_Model_isKings 91 rfl) rfl (wr_gi _ _ _) (wr_lit rfl) (fun c3 => ?_) (fun c3 => ?_)
        · replace h := ite_f h c3
          refine j_loc [0, 1, 3] rfl ?_
          exact s_Model_isKings_L204 ih (hx4) (hx6) h
        · replace h := ite_t h c3
          refine j_aloadn (k := 0) (D_Model_isKings 92 rfl) rfl rfl ?_
          refine j_iload (k := 1) (D_Model_isKings 93 rfl) rfl ?_
          refine j_aloadn (k := 0) (D_Model_isKings 94 rfl) rfl rfl ?_
          refine j_getR rfl fa_Model_82 kd_81 lc_81 (by decide) rfl fx_81_28 (by decide) (D_Model_isKings 95 rfl) ?_
          refine j_bipush (v := 31) (D_Model_isKings 96 rfl) rfl ?_
          refine j_iload (k := 1) (D_Model_isKings 97 rfl) rfl ?_
          refine j_imul (D_Model_isKings 98 rfl) ?_
          refine j_iload (k := 3) (D_Model_isKings 99 rfl) rfl ?_
          refine j_iadd (D_Model_isKings 100 rfl) ?_
          have g4 := gd_c h
          replace h := gd_s h
          refine j_iald (NI := 124) (D_Model_isKings 101 rfl) kd_106 lc_106 (rfl) rfl g4.1 g4.2 ?_
          refine j_aloadn (k := 0) (D_Model_isKings 102 rfl) rfl rfl ?_
          refine j_getR rfl fa_Model_82 kd_81 lc_81 (by decide) rfl fx_81_28 (by decide) (D_Model_isKings 103 rfl) ?_
          refine j_bipush (v := 31) (D_Model_isKings 104 rfl) rfl ?_
          refine j_iload (k := 1) (D_Model_isKings 105 rfl) rfl ?_
          refine j_imul (D_Model_isKings 106 rfl) ?_
          refine j_iload (k := 3) (D_Model_isKings 107 rfl) rfl ?_
          refine j_iadd (D_Model_isKings 108 rfl) ?_
          refine j_iconst (v := 1) (D_Model_isKings 109 rfl) rfl ?_
          refine j_iadd (D_Model_isKings 110 rfl) ?_
          have g5 := gd_c h
          replace h := gd_s h
          refine j_iald (NI := 124) (D_Model_isKings 111 rfl) kd_106 lc_106 (rfl) rfl g5.1 g5.2 ?_
          obtain ⟨q1, e1, h⟩ := Option.bind_eq_some_iff.mp h
          refine j_cVi (c_Model_comesTo (hx4) (wr_gi _ _ _) (wr_gi _ _ _) e1) rfl lk_Model_503 mok_Model_comesTo kd_81 lc_81 rfl (by decide) rfl rfl (Nat.le_of_ble_eq_true rfl) (D_Model_isKings 112 rfl) (fun w1 => ?_)
          refine j_iconst (v := 1) (D_Model_isKings 113 rfl) rfl ?_
          refine j_ic_ne (tgt := 204) (D_Model_isKings 114 rfl) rfl (w1) (wr_lit rfl) (fun c4 => ?_) (fun c4 => ?_)
          · replace h := ite_f h c4
            refine j_loc [0, 1, 3] rfl ?_
            exact s_Model_isKings_L204 ih (hx4) (hx6) h
          · replace h := ite_t h c4
            refine j_loc [0, 1, 3] rfl ?_
            exact s_Model_isKings_L200 ih (hx4) (hx6) h
def f_Model_isKings_L96 (k77 : GS → Int → Int → Int → Int → Option (Int × GS)) (G : GS) (x1 : Int) (x2 : Int) (x3 : Int) (x4 : Int) : Option (Int × GS) :=
  k77 G x1 x2 x3 (wr (x4 + (-1)))
theorem s_Model_isKings_L96 {X : XT} {r : Int × GS} {k77 : GS → Int → Int → Int → Int → Option (Int × GS)} (hk77 : ∀ {G : GS} {x1 : Int} {x2 : Int} {x3 : Int} {x4 : Int} , wr x1 = x1 → wr x2 = x2 → wr x3 = x3 → wr x4 = x4 → k77 G x1 x2 x3 x4 = some r → J X true 15 0 0 M_Model_isKings (Rz r.1 r.2) NC 0 0 77 [(0, rf X 81), (1, vi x1), (2, vi x2), (3, vi x3), (4, vi x4)] [] G) : ∀ {G : GS} {x1 : Int} {x2 : Int} {x3 : Int} {x4 : Int}, wr x1 = x1 → wr x2 = x2 → wr x3 = x3 → wr x4 = x4 → f_Model_isKings_L96 k77 G x1 x2 x3 x4 = some r → J X true 15 0 0 M_Model_isKings (Rz r.1 r.2) NC 0 0 96 [(0, rf X 81), (1, vi x1), (2, vi x2), (3, vi x3), (4, vi x4)] [] G := by
  intro G x1 x2 x3 x4 hx1 hx2 hx3 hx4 h
  unfold f_Model_isKings_L96 at h
  refine j_iinc (k := 4) (L' := [(4, vi (wr (x4 + (-1)))), (0, rf X 81), (1, vi x1), (2, vi x2), (3, vi x3)]) (D_Model_isKings 56 rfl) rfl rfl (by decide) rfl ?_
  refine j_goto (tgt := 77) (D_Model_isKings 57 rfl) rfl ?_
  refine j_loc [1, 2, 3, 4, 0] rfl ?_
  exact hk77 (hx1) (hx2) (hx3) (wr_wr _) h
def f_Model_isKings_L77 : Nat → GS → Int → Int → Int → Int → Option (Int × GS)
  | 0, _, _, _, _, _ => none
  | n + 1, G, x1, x2, x3, x4 =>
    if x4 < 0 then
      (f_Model_gathers G x1 x2 x3).bind fun q1 =>
      gd (0 ≤ x1 ∧ x1 < 32) <|
      (f_Model_reignOn q1 (gi q1 87 x1.toNat)).bind fun q2 =>
      f_Model_isKings_L127 FU q1 q2 0 0
    else
      (f_Model_isHeir G x1 x2 x4).bind fun q3 =>
      if q3.1 = 0 then
        f_Model_isKings_L96 (f_Model_isKings_L77 n) q3.2 x1 x2 x3 x4
      else
        f_Model_isKings_L96 (f_Model_isKings_L77 n) q3.2 x1 x2 x4 x4
theorem s_Model_isKings_L77 {X : XT} {r : Int × GS} : ∀ (n : Nat) {G : GS} {x1 : Int} {x2 : Int} {x3 : Int} {x4 : Int}, wr x1 = x1 → wr x2 = x2 → wr x3 = x3 → wr x4 = x4 → f_Model_isKings_L77 n G x1 x2 x3 x4 = some r → J X true 15 0 0 M_Model_isKings (Rz r.1 r.2) NC 0 0 77 [(0, rf X 81), (1, vi x1), (2, vi x2), (3, vi x3), (4, vi x4)] [] G := by
  intro n
  induction n with
  | zero =>
    intro G x1 x2 x3 x4 hx1 hx2 hx3 hx4 h
    exact none_some h
  | succ n ih =>
    intro G x1 x2 x3 x4 hx1 hx2 hx3 hx4 h
    rw [f_Model_isKings_L77] at h
    refine j_iload (k := 4) (D_Model_isKings 46 rfl) rfl ?_
    refine j_if_lt (tgt := 102) (D_Model_isKings 47 rfl) rfl (hx4) (fun c1 => ?_) (fun c1 => ?_)
    · replace h := ite_t h c1
      refine j_aloadn (k := 0) (D_Model_isKings 58 rfl) rfl rfl ?_
      refine j_iloadn (k := 1) (D_Model_isKings 59 rfl) rfl rfl ?_
      refine j_iloadn (k := 2) (D_Model_isKings 60 rfl) rfl rfl ?_
      refine j_iloadn (k := 3) (D_Model_isKings 61 rfl) rfl rfl ?_
      obtain ⟨q1, e1, h⟩ := Option.bind_eq_some_iff.mp h
      refine j_cVv (c_Model_gathers (hx1) (hx2) (hx3) e1) rfl lk_Model_499 mok_Model_gathers kd_81 lc_81 rfl (by decide) rfl rfl (Nat.le_of_ble_eq_true rfl) (D_Model_isKings 62 rfl) ?_
      refine j_aloadn (k := 0) (D_Model_isKings 63 rfl) rfl rfl ?_
      refine j_aloadn (k := 0) (D_Model_isKings 64 rfl) rfl rfl ?_
      refine j_getR rfl fa_Model_25 kd_81 lc_81 (by decide) rfl fx_81_7 (by decide) (D_Model_isKings 65 rfl) ?_
      refine j_iloadn (k := 1) (D_Model_isKings 66 rfl) rfl rfl ?_
      have g1 := gd_c h
      replace h := gd_s h
      refine j_iald (NI := 32) (D_Model_isKings 67 rfl) kd_87 lc_87 (hx1) rfl g1.1 g1.2 ?_
      obtain ⟨q2, e2, h⟩ := Option.bind_eq_some_iff.mp h
      refine j_cVi (c_Model_reignOn (wr_gi _ _ _) e2) rfl lk_Model_417 mok_Model_reignOn kd_81 lc_81 rfl (by decide) rfl rfl (Nat.le_of_ble_eq_true rfl) (D_Model_isKings 68 rfl) (fun w1 => ?_)
      refine j_istore (L' := [(4, vi q2), (0, rf X 81), (1, vi x1), (2, vi x2), (3, vi x3)]) (D_Model_isKings 69 rfl) (w1) (by decide) rfl ?_
      refine j_iconst (v := 0) (D_Model_isKings 70 rfl) rfl ?_
      refine j_istore (L' := [(5, vi 0), (4, vi q2), (0, rf X 81), (1, vi x1), (2, vi x2), (3, vi x3)]) (D_Model_isKings 71 rfl) (wr_lit rfl) (by decide) rfl ?_
      refine j_iconst (v := 0) (D_Model_isKings 72 rfl) rfl ?_
      refine j_istore (L' := [(6, vi 0), (5, vi 0), (4, vi q2), (0, rf X 81), (1, vi x1), (2, vi x2), (3, vi x3)]) (D_Model_isKings 73 rfl) (wr_lit rfl) (by decide) rfl ?_
      refine j_loc [3, 2, 1, 0] rfl ?_
      exact s_Model_isKings_L127 FU (w1) (wr_lit rfl) (wr_lit rfl) h
    · replace h := ite_f h c1
      refine j_aloadn (k := 0) (D_Model_isKings 48 rfl) rfl rfl ?_
      refine j_iloadn (k := 1) (D_Model_isKings 49 rfl) rfl rfl ?_
      refine j_iloadn (k := 2) (D_Model_isKings 50 rfl) rfl rfl ?_
      refine j_iload (k := 4) (D_Model_isKings 51 rfl) rfl ?_
      obtain ⟨q3, e3, h⟩ := Option.bind_eq_some_iff.mp h
      refine j_cVz (c_Model_isHeir (hx1) (hx2) (hx4) e3) rfl lk_Model_496 mok_Model_isHeir kd_81 lc_81 rfl (by decide) rfl rfl (Nat.le_of_ble_eq_true rfl) (D_Model_isKings 52 rfl) (fun w2 bw2 => ?_)
      refine j_if_eq (tgt := 96) (D_Model_isKings 53 rfl) rfl (w2) (fun c2 => ?_) (fun c2 => ?_)
      · replace h := ite_t h c2
        refine j_loc [0, 1, 2, 3, 4] rfl ?_
        exact s_Model_isKings_L96 ih (hx1) (hx2) (hx3) (hx4) h
      · replace h := ite_f h c2
        refine j_iload (k := 4) (D_Model_isKings 54 rfl) rfl ?_
        refine j_istoren (L' := [(3, vi x4), (0, rf X 81), (1, vi x1), (2, vi x2), (4, vi x4)]) (D_Model_isKings 55 rfl) rfl (hx4) (by decide) rfl ?_
        refine j_loc [1, 2, 3, 0, 4] rfl ?_
        exact s_Model_isKings_L96 ih (hx1) (hx2) (hx4) (hx4) h
def f_Model_isKings_L61 (k2 : GS → Int → Int → Int → Option (Int × GS)) (G : GS) (x1 : Int) (x2 : Int) (x3 : Int) : Option (Int × GS) :=
  k2 G x1 x2 (wr (x3 + 1))
theorem s_Model_isKings_L61 {X : XT} {r : Int × GS} {k2 : GS → Int → Int → Int → Option (Int × GS)} (hk2 : ∀ {G : GS} {x1 : Int} {x2 : Int} {x3 : Int} , wr x1 = x1 → wr x2 = x2 → wr x3 = x3 → k2 G x1 x2 x3 = some r → J X true 15 0 0 M_Model_isKings (Rz r.1 r.2) NC 0 0 2 [(0, rf X 81), (1, vi x1), (2, vi x2), (3, vi x3)] [] G) : ∀ {G : GS} {x1 : Int} {x2 : Int} {x3 : Int}, wr x1 = x1 → wr x2 = x2 → wr x3 = x3 → f_Model_isKings_L61 k2 G x1 x2 x3 = some r → J X true 15 0 0 M_Model_isKings (Rz r.1 r.2) NC 0 0 61 [(0, rf X 81), (1, vi x1), (2, vi x2), (3, vi x3)] [] G := by
  intro G x1 x2 x3 hx1 hx2 hx3 h
  unfold f_Model_isKings_L61 at h
  refine j_iinc (k := 3) (L' := [(3, vi (wr (x3 + 1))), (0, rf X 81), (1, vi x1), (2, vi x2)]) (D_Model_isKings 37 rfl) rfl rfl (by decide) rfl ?_
  refine j_goto (tgt := 2) (D_Model_isKings 38 rfl) rfl ?_
  refine j_loc [1, 2, 3, 0] rfl ?_
  exact hk2 (hx1) (hx2) (wr_wr _) h
def f_Model_isKings_L2 : Nat → GS → Int → Int → Int → Option (Int × GS)
  | 0, _, _, _, _ => none
  | n + 1, G, x1, x2, x3 =>
    if gi G 81 10 ≤ x3 then
      f_Model_isKings_L77 FU G x1 x2 (-1) (wr ((gi G 81 1) - 1))
    else
      gd (0 ≤ x1 ∧ x1 < 32) <|
      if gi G 87 x1.toNat ≤ 0 then
        f_Model_isKings_L61 (f_Model_isKings_L2 n) G x1 x2 x3
      else
        gd (0 ≤ x3 ∧ x3 < 12) <|
        if gi G 92 x3.toNat = (-1) then
          gd (0 ≤ x3 ∧ x3 < 12) <|
          if gi G 91 x3.toNat = 0 then
            gd (0 ≤ x1 ∧ x1 < 32) <|
            (f_Model_holderOf G x3 (wr ((gi G 87 x1.toNat) - 1)) (gi G 81 0)).bind fun q1 =>
            if q1 = x1 then
              some (1, G)
            else
              f_Model_isKings_L61 (f_Model_isKings_L2 n) G x1 x2 x3
          else
            f_Model_isKings_L61 (f_Model_isKings_L2 n) G x1 x2 x3
        else
          f_Model_isKings_L61 (f_Model_isKings_L2 n) G x1 x2 x3
theorem s_Model_isKings_L2 {X : XT} {r : Int × GS} : ∀ (n : Nat) {G : GS} {x1 : Int} {x2 : Int} {x3 : Int}, wr x1 = x1 → wr x2 = x2 → wr x3 = x3 → f_Model_isKings_L2 n G x1 x2 x3 = some r → J X true 15 0 0 M_Model_isKings (Rz r.1 r.2) NC 0 0 2 [(0, rf X 81), (1, vi x1), (2, vi x2), (3, vi x3)] [] G := by
  intro n
  induction n with
  | zero =>
    intro G x1 x2 x3 hx1 hx2 hx3 h
    exact none_some h
  | succ n ih =>
    intro G x1 x2 x3 hx1 hx2 hx3 h
    rw [f_Model_isKings_L2] at h
    refine j_iloadn (k := 3) (D_Model_isKings 2 rfl) rfl rfl ?_
    refine j_aloadn (k := 0) (D_Model_isKings 3 rfl) rfl rfl ?_
    refine j_getI rfl fa_Model_212 kd_81 lc_81 (by decide) rfl (D_Model_isKings 4 rfl) ?_
    refine j_ic_ge (tgt := 67) (D_Model_isKings 5 rfl) rfl (hx3) (wr_gi _ _ _) (fun c1 => ?_) (fun c1 => ?_)
    · replace h := ite_t h c1
      refine j_iconst (v := (-1)) (D_Model_isKings 39 rfl) rfl ?_
      refine j_istoren (L' := [(3, vi (-1)), (0, rf X 81), (1, vi x1), (2, vi x2)]) (D_Model_isKings 40 rfl) rfl (wr_lit rfl) (by decide) rfl ?_
      refine j_aloadn (k := 1) (D_Model_isKings 41 rfl) rfl rfl ?_
      refine j_getI rfl fa_Model_195 kd_81 lc_81 (by decide) rfl (D_Model_isKings 42 rfl) ?_
      refine j_iconst (v := 1) (D_Model_isKings 43 rfl) rfl ?_
      refine j_isub (D_Model_isKings 44 rfl) ?_
      refine j_istore (L' := [(4, vi (wr ((gi G 81 1) - 1))), (3, vi (-1)), (0, rf X 81), (1, vi x1), (2, vi x2)]) (D_Model_isKings 45 rfl) (rfl) (by decide) rfl ?_
      refine j_loc [2, 3, 4, 1, 0] rfl ?_
      exact s_Model_isKings_L77 FU (hx1) (hx2) (wr_lit rfl) (wr_wr _) h
    · replace h := ite_f h c1
      refine j_aloadn (k := 0) (D_Model_isKings 6 rfl) rfl rfl ?_
      refine j_getR rfl fa_Model_25 kd_81 lc_81 (by decide) rfl fx_81_7 (by decide) (D_Model_isKings 7 rfl) ?_
      refine j_iloadn (k := 1) (D_Model_isKings 8 rfl) rfl rfl ?_
      have g1 := gd_c h
      replace h := gd_s h
      refine j_iald (NI := 32) (D_Model_isKings 9 rfl) kd_87 lc_87 (hx1) rfl g1.1 g1.2 ?_
      refine j_if_le (tgt := 61) (D_Model_isKings 10 rfl) rfl (wr_gi _ _ _) (fun c2 => ?_) (fun c2 => ?_)
      · replace h := ite_t h c2
        refine j_loc [0, 1, 2, 3] rfl ?_
        exact s_Model_isKings_L61 ih (hx1) (hx2) (hx3) h
      · replace h := ite_f h c2
        refine j_aloadn (k := 0) (D_Model_isKings 11 rfl) rfl rfl ?_
        refine j_getR rfl fa_Model_40 kd_81 lc_81 (by decide) rfl fx_81_13 (by decide) (D_Model_isKings 12 rfl) ?_
        refine j_iloadn (k := 3) (D_Model_isKings 13 rfl) rfl rfl ?_
        have g2 := gd_c h
        replace h := gd_s h
        refine j_iald (NI := 12) (D_Model_isKings 14 rfl) kd_92 lc_92 (hx3) rfl g2.1 g2.2 ?_
        refine j_iconst (v := (-1)) (D_Model_isKings 15 rfl) rfl ?_
        refine j_ic_ne (tgt := 61) (D_Model_isKings 16 rfl) rfl (wr_gi _ _ _) (wr_lit rfl) (fun c3 => ?_) (fun c3 => ?_)
        · replace h := ite_f h c3
          refine j_loc [0, 1, 2, 3] rfl ?_
          exact s_Model_isKings_L61 ih (hx1) (hx2) (hx3) h
        · replace h := ite_t h c3
          refine j_aloadn (k := 0) (D_Model_isKings 17 rfl) rfl rfl ?_
          refine j_getR rfl fa_Model_37 kd_81 lc_81 (by decide) rfl fx_81_12 (by decide) (D_Model_isKings 18 rfl) ?_
          refine j_iloadn (k := 3) (D_Model_isKings 19 rfl) rfl rfl ?_
          have g3 := gd_c h
          replace h := gd_s h
          refine j_iald (NI := 12) (D_Model_isKings 20 rfl) kd_91 lc_91 (hx3) rfl g3.1 g3.2 ?_
          refine j_if_ne (tgt := 61) (D_Model_isKings 21 rfl) rfl (wr_gi _ _ _) (fun c4 => ?_) (fun c4 => ?_)
          · replace h := ite_f h c4
            refine j_loc [0, 1, 2, 3] rfl ?_
            exact s_Model_isKings_L61 ih (hx1) (hx2) (hx3) h
          · replace h := ite_t h c4
            refine j_aloadn (k := 0) (D_Model_isKings 22 rfl) rfl rfl ?_
            refine j_iloadn (k := 3) (D_Model_isKings 23 rfl) rfl rfl ?_
            refine j_aloadn (k := 0) (D_Model_isKings 24 rfl) rfl rfl ?_
            refine j_getR rfl fa_Model_25 kd_81 lc_81 (by decide) rfl fx_81_7 (by decide) (D_Model_isKings 25 rfl) ?_
            refine j_iloadn (k := 1) (D_Model_isKings 26 rfl) rfl rfl ?_
            have g4 := gd_c h
            replace h := gd_s h
            refine j_iald (NI := 32) (D_Model_isKings 27 rfl) kd_87 lc_87 (hx1) rfl g4.1 g4.2 ?_
            refine j_iconst (v := 1) (D_Model_isKings 28 rfl) rfl ?_
            refine j_isub (D_Model_isKings 29 rfl) ?_
            refine j_aloadn (k := 0) (D_Model_isKings 30 rfl) rfl rfl ?_
            refine j_getI rfl fa_Model_192 kd_81 lc_81 (by decide) rfl (D_Model_isKings 31 rfl) ?_
            refine j_top1 (rfl) ?_
            obtain ⟨q1, e1, h⟩ := Option.bind_eq_some_iff.mp h
            refine j_cVi (c_Model_holderOf (hx3) (wr_wr _) (wr_gi _ _ _) e1) rfl lk_Model_493 mok_Model_holderOf kd_81 lc_81 rfl (by decide) rfl rfl (Nat.le_of_ble_eq_true rfl) (D_Model_isKings 32 rfl) (fun w1 => ?_)
            refine j_iloadn (k := 1) (D_Model_isKings 33 rfl) rfl rfl ?_
            refine j_ic_ne (tgt := 61) (D_Model_isKings 34 rfl) rfl (w1) (hx1) (fun c5 => ?_) (fun c5 => ?_)
            · replace h := ite_f h c5
              refine j_loc [0, 1, 2, 3] rfl ?_
              exact s_Model_isKings_L61 ih (hx1) (hx2) (hx3) h
            · replace h := ite_t h c5
              refine j_iconst (v := 1) (D_Model_isKings 35 rfl) rfl ?_
              exact j_zret (D_Model_isKings 36 rfl) rfl (wr_lit rfl) (nz_01 (by decide)) rfl rfl (leafZ h (wr_n (wr_lit rfl)) (by decide))
def f_Model_isKings (G : GS) (a1 : Int) (a2 : Int) : Option (Int × GS) :=
  f_Model_isKings_L2 FU G a1 a2 0
theorem c_Model_isKings {X : XT} {G : GS} {a1 : Int} {a2 : Int} {r : Int × GS} (ha1 : wr a1 = a1) (ha2 : wr a2 = a2) (h : f_Model_isKings G a1 a2 = some r) : Call X true 15 0 0 M_Model_isKings [rf X 81, vi a1, vi a2] NC G (Rz r.1 r.2) := by
  refine Call_of_J cw_Model_isKings (by decide +kernel) (Nat.le_of_ble_eq_true rfl) ?_
  unfold f_Model_isKings at h
  show J X true 15 0 0 M_Model_isKings (Rz r.1 r.2) NC 0 0 0 [(0, rf X 81), (1, vi a1), (2, vi a2)] [] G
  refine j_iconst (v := 0) (D_Model_isKings 0 rfl) rfl ?_
  refine j_istoren (L' := [(3, vi 0), (0, rf X 81), (1, vi a1), (2, vi a2)]) (D_Model_isKings 1 rfl) rfl (wr_lit rfl) (by decide) rfl ?_
  refine j_loc [1, 2, 3, 0] rfl ?_
  exact s_Model_isKings_L2 FU (ha1) (ha2) (wr_lit rfl) h
abbrev M_Model_guardian : MI := (⟨"InquestHallModel", "guardian", "(III)I"⟩, prog_14_method_74_code, 6, (some .int))
theorem cw_Model_guardian : Cond.code M_Model_guardian.1 M_Model_guardian.2.1 M_Model_guardian.2.2.1 M_Model_guardian.2.2.2 ∈ TS := mTS (List.mem_of_getElem? (i := 1895) (by decide +kernel)) (by decide +kernel)
def tb_Model_guardian : List (Nat × Instr × Nat) := [(0, .aload_n 0, 1), (1, .getfield 73, 3), (4, .iconst 3, 1), (5, .aload_n 0, 1), (6, .aload_n 0, 1), (7, .getfield 25, 3), (10, .iload_n 1, 1), (11, .iaload, 1), (12, .invokevirtual 417, 3), (15, .imul, 1), (16, .aload_n 0, 1), (17, .getfield 37, 3), (20, .iload_n 2, 1), (21, .iaload, 1), (22, .iadd, 1), (23, .iaload, 1), (24, .istore 4, 2), (26, .iload 4, 2), (28, .iconst 1, 1), (29, .if_icmp .ne 5, 3), (32, .iconst (-1), 1), (33, .ireturn, 1), (34, .aload_n 0, 1), (35, .getfield 16, 3), (38, .iload_n 3, 1), (39, .iaload, 1), (40, .istore 5, 2), (42, .iload 4, 2), (44, .ifCond .eq 9, 3), (47, .iload 5, 2), (49, .iconst (-1), 1), (50, .if_icmp .ne 10, 3), (53, .aload_n 0, 1), (54, .getfield 40, 3), (57, .iload_n 2, 1), (58, .iaload, 1), (59, .ireturn, 1), (60, .aload_n 0, 1), (61, .iload 5, 2), (63, .aload_n 0, 1), (64, .getfield 25, 3), (67, .iload_n 1, 1), (68, .iaload, 1), (69, .invokevirtual 423, 3), (72, .ifCond .eq 6, 3), (75, .iload 5, 2), (77, .ireturn, 1), (78, .aload_n 0, 1), (79, .getfield 13, 3), (82, .iload 5, 2), (84, .iaload, 1), (85, .iconst (-1), 1), (86, .if_icmp .eq 31, 3), (89, .aload_n 0, 1), (90, .aload_n 0, 1), (91, .getfield 13, 3), (94, .iload 5, 2), (96, .iaload, 1), (97, .aload_n 0, 1), (98, .getfield 25, 3), (101, .iload_n 1, 1), (102, .iaload, 1), (103, .invokevirtual 423, 3), (106, .ifCond .eq 11, 3), (109, .aload_n 0, 1), (110, .getfield 13, 3), (113, .iload 5, 2), (115, .iaload, 1), (116, .ireturn, 1), (117, .aload_n 0, 1), (118, .getfield 16, 3), (121, .iload 5, 2), (123, .iaload, 1), (124, .iconst (-1), 1), (125, .if_icmp .eq 33, 3), (128, .aload_n 0, 1), (129, .aload_n 0, 1), (130, .getfield 16, 3), (133, .iload 5, 2), (135, .iaload, 1), (136, .aload_n 0, 1), (137, .getfield 25, 3), (140, .iload_n 1, 1), (141, .iaload, 1), (142, .invokevirtual 423, 3), (145, .ifCond .eq 13, 3), (148, .aload_n 0, 1), (149, .getfield 16, 3), (152, .iload 5, 2), (154, .iaload, 1), (155, .goto 9, 3), (158, .aload_n 0, 1), (159, .getfield 40, 3), (162, .iload_n 2, 1), (163, .iaload, 1), (164, .ireturn, 1)]
theorem D_Model_guardian (i : Nat) {pc len : Nat} {ins : Instr} (hi : tb_Model_guardian[i]? = some (pc, ins, len)) : decode M_Model_guardian.2.1 pc = .ok (ins, len) := dec_of (by decide +kernel) i hi
def f_Model_guardian_L117 (G : GS) (x1 : Int) (x2 : Int) (x5 : Int) : Option (Int) :=
  gd (0 ≤ x5 ∧ x5 < 32) <|
  if gi G 84 x5.toNat = (-1) then
    gd (0 ≤ x2 ∧ x2 < 12) <|
    some (gi G 92 x2.toNat)
  else
    gd (0 ≤ x5 ∧ x5 < 32) <|
    gd (0 ≤ x1 ∧ x1 < 32) <|
    (f_Model_isAlive G (gi G 84 x5.toNat) (gi G 87 x1.toNat)).bind fun q1 =>
    if q1 = 0 then
      gd (0 ≤ x2 ∧ x2 < 12) <|
      some (gi G 92 x2.toNat)
    else
      gd (0 ≤ x5 ∧ x5 < 32) <|
      some (gi G 84 x5.toNat)
theorem s_Model_guardian_L117 {X : XT} {G : GS} {r : Int} : ∀ {x1 : Int} {x2 : Int} {x5 : Int}, wr x1 = x1 → wr x2 = x2 → wr x5 = x5 → f_Model_guardian_L117 G x1 x2 x5 = some r → J X true 7 0 0 M_Model_guardian (Ri r G) NC 0 0 117 [(0, rf X 81), (1, vi x1), (2, vi x2), (5, vi x5)] [] G := by
  intro x1 x2 x5 hx1 hx2 hx5 h
  unfold f_Model_guardian_L117 at h
  refine j_aloadn (k := 0) (D_Model_guardian 69 rfl) rfl rfl ?_
  refine j_getR rfl fa_Model_16 kd_81 lc_81 (by decide) rfl fx_81_4 (by decide) (D_Model_guardian 70 rfl) ?_
  refine j_iload (k := 3) (D_Model_guardian 71 rfl) rfl ?_
  have g1 := gd_c h
  replace h := gd_s h
  refine j_iald (NI := 32) (D_Model_guardian 72 rfl) kd_84 lc_84 (hx5) rfl g1.1 g1.2 ?_
  refine j_iconst (v := (-1)) (D_Model_guardian 73 rfl) rfl ?_
  refine j_ic_eq (tgt := 158) (D_Model_guardian 74 rfl) rfl (wr_gi _ _ _) (wr_lit rfl) (fun c1 => ?_) (fun c1 => ?_)
  · replace h := ite_t h c1
    refine j_aloadn (k := 0) (D_Model_guardian 91 rfl) rfl rfl ?_
    refine j_getR rfl fa_Model_40 kd_81 lc_81 (by decide) rfl fx_81_13 (by decide) (D_Model_guardian 92 rfl) ?_
    refine j_iloadn (k := 2) (D_Model_guardian 93 rfl) rfl rfl ?_
    have g2 := gd_c h
    replace h := gd_s h
    refine j_iald (NI := 12) (D_Model_guardian 94 rfl) kd_92 lc_92 (hx2) rfl g2.1 g2.2 ?_
    exact j_iret (D_Model_guardian 95 rfl) rfl (wr_gi _ _ _) rfl rfl (leafIo h (wr_n (wr_gi _ _ _)))
  · replace h := ite_f h c1
    refine j_aloadn (k := 0) (D_Model_guardian 75 rfl) rfl rfl ?_
    refine j_aloadn (k := 0) (D_Model_guardian 76 rfl) rfl rfl ?_
    refine j_getR rfl fa_Model_16 kd_81 lc_81 (by decide) rfl fx_81_4 (by decide) (D_Model_guardian 77 rfl) ?_
    refine j_iload (k := 3) (D_Model_guardian 78 rfl) rfl ?_
    have g3 := gd_c h
    replace h := gd_s h
    refine j_iald (NI := 32) (D_Model_guardian 79 rfl) kd_84 lc_84 (hx5) rfl g3.1 g3.2 ?_
    refine j_aloadn (k := 0) (D_Model_guardian 80 rfl) rfl rfl ?_
    refine j_getR rfl fa_Model_25 kd_81 lc_81 (by decide) rfl fx_81_7 (by decide) (D_Model_guardian 81 rfl) ?_
    refine j_iloadn (k := 1) (D_Model_guardian 82 rfl) rfl rfl ?_
    have g4 := gd_c h
    replace h := gd_s h
    refine j_iald (NI := 32) (D_Model_guardian 83 rfl) kd_87 lc_87 (hx1) rfl g4.1 g4.2 ?_
    obtain ⟨q1, e1, h⟩ := Option.bind_eq_some_iff.mp h
    refine j_cVz (c_Model_isAlive (wr_gi _ _ _) (wr_gi _ _ _) e1) rfl lk_Model_423 mok_Model_isAlive kd_81 lc_81 rfl (by decide) rfl rfl (Nat.le_of_ble_eq_true rfl) (D_Model_guardian 84 rfl) (fun w1 bw1 => ?_)
    refine j_if_eq (tgt := 158) (D_Model_guardian 85 rfl) rfl (w1) (fun c2 => ?_) (fun c2 => ?_)
    · replace h := ite_t h c2
      refine j_aloadn (k := 0) (D_Model_guardian 91 rfl) rfl rfl ?_
      refine j_getR rfl fa_Model_40 kd_81 lc_81 (by decide) rfl fx_81_13 (by decide) (D_Model_guardian 92 rfl) ?_
      refine j_iloadn (k := 2) (D_Model_guardian 93 rfl) rfl rfl ?_
      have g5 := gd_c h
      replace h := gd_s h
      refine j_iald (NI := 12) (D_Model_guardian 94 rfl) kd_92 lc_92 (hx2) rfl g5.1 g5.2 ?_
      exact j_iret (D_Model_guardian 95 rfl) rfl (wr_gi _ _ _) rfl rfl (leafIo h (wr_n (wr_gi _ _ _)))
    · replace h := ite_f h c2
      refine j_aloadn (k := 0) (D_Model_guardian 86 rfl) rfl rfl ?_
      refine j_getR rfl fa_Model_16 kd_81 lc_81 (by decide) rfl fx_81_4 (by decide) (D_Model_guardian 87 rfl) ?_
      refine j_iload (k := 3) (D_Model_guardian 88 rfl) rfl ?_
      have g6 := gd_c h
      replace h := gd_s h
      refine j_iald (NI := 32) (D_Model_guardian 89 rfl) kd_84 lc_84 (hx5) rfl g6.1 g6.2 ?_
      refine j_goto (tgt := 164) (D_Model_guardian 90 rfl) rfl ?_
      exact j_iret (D_Model_guardian 95 rfl) rfl (wr_gi _ _ _) rfl rfl (leafIo h (wr_n (wr_gi _ _ _)))
def f_Model_guardian (G : GS) (a1 : Int) (a2 : Int) (a3 : Int) : Option (Int) :=
  gd (0 ≤ a1 ∧ a1 < 32) <|
  (f_Model_reignOn G (gi G 87 a1.toNat)).bind fun q1 =>
  gd (0 ≤ a2 ∧ a2 < 12) <|
  gd (0 ≤ wr ((3 * q1) + (gi G 91 a2.toNat)) ∧ wr ((3 * q1) + (gi G 91 a2.toNat)) < 12) <|
  if gi G 103 (wr ((3 * q1) + (gi G 91 a2.toNat))).toNat = 1 then
    some (-1)
  else
    gd (0 ≤ a3 ∧ a3 < 32) <|
    if gi G 103 (wr ((3 * q1) + (gi G 91 a2.toNat))).toNat = 0 then
      gd (0 ≤ a2 ∧ a2 < 12) <|
      some (gi G 92 a2.toNat)
    else
      if gi G 84 a3.toNat = (-1) then
        gd (0 ≤ a2 ∧ a2 < 12) <|
        some (gi G 92 a2.toNat)
      else
        gd (0 ≤ a1 ∧ a1 < 32) <|
        (f_Model_isAlive G (gi G 84 a3.toNat) (gi G 87 a1.toNat)).bind fun q2 =>
        if q2 = 0 then
          gd (0 ≤ gi G 84 a3.toNat ∧ gi G 84 a3.toNat < 32) <|
          if gi G 83 (gi G 84 a3.toNat).toNat = (-1) then
            f_Model_guardian_L117 G a1 a2 (gi G 84 a3.toNat)
          else
            gd (0 ≤ gi G 84 a3.toNat ∧ gi G 84 a3.toNat < 32) <|
            gd (0 ≤ a1 ∧ a1 < 32) <|
            (f_Model_isAlive G (gi G 83 (gi G 84 a3.toNat).toNat) (gi G 87 a1.toNat)).bind fun q3 =>
            if q3 = 0 then
              f_Model_guardian_L117 G a1 a2 (gi G 84 a3.toNat)
            else
              gd (0 ≤ gi G 84 a3.toNat ∧ gi G 84 a3.toNat < 32) <|
              some (gi G 83 (gi G 84 a3.toNat).toNat)
        else
          some (gi G 84 a3.toNat)
theorem c_Model_guardian {X : XT} {G : GS} {a1 : Int} {a2 : Int} {a3 : Int} {r : Int} (ha1 : wr a1 = a1) (ha2 : wr a2 = a2) (ha3 : wr a3 = a3) (h : f_Model_guardian G a1 a2 a3 = some r) : Call X true 7 0 0 M_Model_guardian [rf X 81, vi a1, vi a2, vi a3] NC G (Ri r G) := by
  refine Call_of_J cw_Model_guardian (by decide +kernel) (Nat.le_of_ble_eq_true rfl) ?_
  unfold f_Model_guardian at h
  show J X true 7 0 0 M_Model_guardian (Ri r G) NC 0 0 0 [(0, rf X 81), (1, vi a1), (2, vi a2), (3, vi a3)] [] G
  refine j_aloadn (k := 0) (D_Model_guardian 0 rfl) rfl rfl ?_
  refine j_getR rfl fa_Model_73 kd_81 lc_81 (by decide) rfl fx_81_25 (by decide) (D_Model_guardian 1 rfl) ?_
  refine j_iconst (v := 3) (D_Model_guardian 2 rfl) rfl ?_
  refine j_aloadn (k := 0) (D_Model_guardian 3 rfl) rfl rfl ?_
  refine j_aloadn (k := 0) (D_Model_guardian 4 rfl) rfl rfl ?_
  refine j_getR rfl fa_Model_25 kd_81 lc_81 (by decide) rfl fx_81_7 (by decide) (D_Model_guardian 5 rfl) ?_
  refine j_iloadn (k := 1) (D_Model_guardian 6 rfl) rfl rfl ?_
  have g1 := gd_c h
  replace h := gd_s h
  refine j_iald (NI := 32) (D_Model_guardian 7 rfl) kd_87 lc_87 (ha1) rfl g1.1 g1.2 ?_
  obtain ⟨q1, e1, h⟩ := Option.bind_eq_some_iff.mp h
  refine j_cVi (c_Model_reignOn (wr_gi _ _ _) e1) rfl lk_Model_417 mok_Model_reignOn kd_81 lc_81 rfl (by decide) rfl rfl (Nat.le_of_ble_eq_true rfl) (D_Model_guardian 8 rfl) (fun w1 => ?_)
  refine j_imul (D_Model_guardian 9 rfl) ?_
  refine j_aloadn (k := 0) (D_Model_guardian 10 rfl) rfl rfl ?_
  refine j_getR rfl fa_Model_37 kd_81 lc_81 (by decide) rfl fx_81_12 (by decide) (D_Model_guardian 11 rfl) ?_
  refine j_iloadn (k := 2) (D_Model_guardian 12 rfl) rfl rfl ?_
  have g2 := gd_c h
  replace h := gd_s h
  refine j_iald (NI := 12) (D_Model_guardian 13 rfl) kd_91 lc_91 (ha2) rfl g2.1 g2.2 ?_
  refine j_iadd (D_Model_guardian 14 rfl) ?_
  have g3 := gd_c h
  replace h := gd_s h
  refine j_iald (NI := 12) (D_Model_guardian 15 rfl) kd_103 lc_103 (rfl) rfl g3.1 g3.2 ?_
  refine j_istore (L' := [(4, vi (gi G 103 (wr ((3 * q1) + (gi G 91 a2.toNat))).toNat)), (0, rf X 81), (1, vi a1), (2, vi a2), (3, vi a3)]) (D_Model_guardian 16 rfl) (wr_gi _ _ _) (by decide) rfl ?_
  refine j_iload (k := 0) (D_Model_guardian 17 rfl) rfl ?_
  refine j_iconst (v := 1) (D_Model_guardian 18 rfl) rfl ?_
  refine j_ic_ne (tgt := 34) (D_Model_guardian 19 rfl) rfl (wr_gi _ _ _) (wr_lit rfl) (fun c1 => ?_) (fun c1 => ?_)
  · replace h := ite_f h c1
    refine j_aloadn (k := 1) (D_Model_guardian 22 rfl) rfl rfl ?_
    refine j_getR rfl fa_Model_16 kd_81 lc_81 (by decide) rfl fx_81_4 (by decide) (D_Model_guardian 23 rfl) ?_
    refine j_iloadn (k := 4) (D_Model_guardian 24 rfl) rfl rfl ?_
    have g4 := gd_c h
    replace h := gd_s h
    refine j_iald (NI := 32) (D_Model_guardian 25 rfl) kd_84 lc_84 (ha3) rfl g4.1 g4.2 ?_
    refine j_istore (L' := [(5, vi (gi G 84 a3.toNat)), (4, vi (gi G 103 (wr ((3 * q1) + (gi G 91 a2.toNat))).toNat)), (0, rf X 81), (1, vi a1), (2, vi a2), (3, vi a3)]) (D_Model_guardian 26 rfl) (wr_gi _ _ _) (by decide) rfl ?_
    refine j_iload (k := 1) (D_Model_guardian 27 rfl) rfl ?_
    refine j_if_eq (tgt := 53) (D_Model_guardian 28 rfl) rfl (wr_gi _ _ _) (fun c2 => ?_) (fun c2 => ?_)
    · replace h := ite_t h c2
      refine j_aloadn (k := 2) (D_Model_guardian 32 rfl) rfl rfl ?_
      refine j_getR rfl fa_Model_40 kd_81 lc_81 (by decide) rfl fx_81_13 (by decide) (D_Model_guardian 33 rfl) ?_
      refine j_iloadn (k := 4) (D_Model_guardian 34 rfl) rfl rfl ?_
      have g5 := gd_c h
      replace h := gd_s h
      refine j_iald (NI := 12) (D_Model_guardian 35 rfl) kd_92 lc_92 (ha2) rfl g5.1 g5.2 ?_
      exact j_iret (D_Model_guardian 36 rfl) rfl (wr_gi _ _ _) rfl rfl (leafIo h (wr_n (wr_gi _ _ _)))
    · replace h := ite_f h c2
      refine j_iload (k := 0) (D_Model_guardian 29 rfl) rfl ?_
      refine j_iconst (v := (-1)) (D_Model_guardian 30 rfl) rfl ?_
      refine j_ic_ne (tgt := 60) (D_Model_guardian 31 rfl) rfl (wr_gi _ _ _) (wr_lit rfl) (fun c3 => ?_) (fun c3 => ?_)
      · replace h := ite_f h c3
        refine j_aloadn (k := 2) (D_Model_guardian 37 rfl) rfl rfl ?_
        refine j_iload (k := 0) (D_Model_guardian 38 rfl) rfl ?_
        refine j_aloadn (k := 2) (D_Model_guardian 39 rfl) rfl rfl ?_
        refine j_getR rfl fa_Model_25 kd_81 lc_81 (by decide) rfl fx_81_7 (by decide) (D_Model_guardian 40 rfl) ?_
        refine j_iloadn (k := 3) (D_Model_guardian 41 rfl) rfl rfl ?_
        have g6 := gd_c h
        replace h := gd_s h
        refine j_iald (NI := 32) (D_Model_guardian 42 rfl) kd_87 lc_87 (ha1) rfl g6.1 g6.2 ?_
        obtain ⟨q2, e2, h⟩ := Option.bind_eq_some_iff.mp h
        refine j_cVz (c_Model_isAlive (wr_gi _ _ _) (wr_gi _ _ _) e2) rfl lk_Model_423 mok_Model_isAlive kd_81 lc_81 rfl (by decide) rfl rfl (Nat.le_of_ble_eq_true rfl) (D_Model_guardian 43 rfl) (fun w2 bw2 => ?_)
        refine j_if_eq (tgt := 78) (D_Model_guardian 44 rfl) rfl (w2) (fun c4 => ?_) (fun c4 => ?_)
        · replace h := ite_t h c4
          refine j_aloadn (k := 2) (D_Model_guardian 47 rfl) rfl rfl ?_
          refine j_getR rfl fa_Model_13 kd_81 lc_81 (by decide) rfl fx_81_3 (by decide) (D_Model_guardian 48 rfl) ?_
          refine j_iload (k := 0) (D_Model_guardian 49 rfl) rfl ?_
          have g7 := gd_c h
          replace h := gd_s h
          refine j_iald (NI := 32) (D_Model_guardian 50 rfl) kd_83 lc_83 (wr_gi _ _ _) rfl g7.1 g7.2 ?_
          refine j_iconst (v := (-1)) (D_Model_guardian 51 rfl) rfl ?_
          refine j_ic_eq (tgt := 117) (D_Model_guardian 52 rfl) rfl (wr_gi _ _ _) (wr_lit rfl) (fun c5 => ?_) (fun c5 => ?_)
          · replace h := ite_t h c5
            refine j_loc [2, 3, 4, 0] rfl ?_
            exact s_Model_guardian_L117 (ha1) (ha2) (wr_gi _ _ _) h
          · replace h := ite_f h c5
            refine j_aloadn (k := 2) (D_Model_guardian 53 rfl) rfl rfl ?_
            refine j_aloadn (k := 2) (D_Model_guardian 54 rfl) rfl rfl ?_
            refine j_getR rfl fa_Model_13 kd_81 lc_81 (by decide) rfl fx_81_3 (by decide) (D_Model_guardian 55 rfl) ?_
            refine j_iload (k := 0) (D_Model_guardian 56 rfl) rfl ?_
            have g8 := gd_c h
            replace h := gd_s h
            refine j_iald (NI := 32) (D_Model_guardian 57 rfl) kd_83 lc_83 (wr_gi _ _ _) rfl g8.1 g8.2 ?_
            refine j_aloadn (k := 2) (D_Model_guardian 58 rfl) rfl rfl ?_
            refine j_getR rfl fa_Model_25 kd_81 lc_81 (by decide) rfl fx_81_7 (by decide) (D_Model_guardian 59 rfl) ?_
            refine j_iloadn (k := 3) (D_Model_guardian 60 rfl) rfl rfl ?_
            have g9 := gd_c h
            replace h := gd_s h
            refine j_iald (NI := 32) (D_Model_guardian 61 rfl) kd_87 lc_87 (ha1) rfl g9.1 g9.2 ?_
            obtain ⟨q3, e3, h⟩ := Option.bind_eq_some_iff.mp h
            refine j_cVz (c_Model_isAlive (wr_gi _ _ _) (wr_gi _ _ _) e3) rfl lk_Model_423 mok_Model_isAlive kd_81 lc_81 rfl (by decide) rfl rfl (Nat.le_of_ble_eq_true rfl) (D_Model_guardian 62 rfl) (fun w3 bw3 => ?_)
            refine j_if_eq (tgt := 117) (D_Model_guardian 63 rfl) rfl (w3) (fun c6 => ?_) (fun c6 => ?_)
            · replace h := ite_t h c6
              refine j_loc [2, 3, 4, 0] rfl ?_
              exact s_Model_guardian_L117 (ha1) (ha2) (wr_gi _ _ _) h
            · replace h := ite_f h c6
              refine j_aloadn (k := 2) (D_Model_guardian 64 rfl) rfl rfl ?_
              refine j_getR rfl fa_Model_13 kd_81 lc_81 (by decide) rfl fx_81_3 (by decide) (D_Model_guardian 65 rfl) ?_
              refine j_iload (k := 0) (D_Model_guardian 66 rfl) rfl ?_
              have g10 := gd_c h
              replace h := gd_s h
              refine j_iald (NI := 32) (D_Model_guardian 67 rfl) kd_83 lc_83 (wr_gi _ _ _) rfl g10.1 g10.2 ?_
              exact j_iret (D_Model_guardian 68 rfl) rfl (wr_gi _ _ _) rfl rfl (leafIo h (wr_n (wr_gi _ _ _)))
        · replace h := ite_f h c4
          refine j_iload (k := 0) (D_Model_guardian 45 rfl) rfl ?_
          exact j_iret (D_Model_guardian 46 rfl) rfl (wr_gi _ _ _) rfl rfl (leafIo h (wr_n (wr_gi _ _ _)))
      · replace h := ite_t h c3
        refine j_aloadn (k := 2) (D_Model_guardian 32 rfl) rfl rfl ?_
        refine j_getR rfl fa_Model_40 kd_81 lc_81 (by decide) rfl fx_81_13 (by decide) (D_Model_guardian 33 rfl) ?_
        refine j_iloadn (k := 4) (D_Model_guardian 34 rfl) rfl rfl ?_
        have g11 := gd_c h
        replace h := gd_s h
        refine j_iald (NI := 12) (D_Model_guardian 35 rfl) kd_92 lc_92 (ha2) rfl g11.1 g11.2 ?_
        exact j_iret (D_Model_guardian 36 rfl) rfl (wr_gi _ _ _) rfl rfl (leafIo h (wr_n (wr_gi _ _ _)))
  · replace h := ite_t h c1
    refine j_iconst (v := (-1)) (D_Model_guardian 20 rfl) rfl ?_
    exact j_iret (D_Model_guardian 21 rfl) rfl (wr_lit rfl) rfl rfl (leafIo h (wr_n (wr_lit rfl)))
abbrev M_Model_ward : MI := (⟨"InquestHallModel", "ward", "(IIII)J"⟩, prog_14_method_75_code, 7, (some .long))
theorem cw_Model_ward : Cond.code M_Model_ward.1 M_Model_ward.2.1 M_Model_ward.2.2.1 M_Model_ward.2.2.2 ∈ TS := mTS (List.mem_of_getElem? (i := 1858) (by decide +kernel)) (by decide +kernel)
theorem ct_Model_506 : Cond.constantLong "InquestHallModel" 506 (-2 : Int64) ∈ TS := mTS (List.mem_of_getElem? (i := 1863) (by decide +kernel)) (by decide +kernel)
theorem lk_Model_508 : Cond.methodLink "InquestHallModel" 508 M_Model_isWard.1 ∈ TS := mTS (List.mem_of_getElem? (i := 1864) (by decide +kernel)) (by decide +kernel)
theorem mok_Model_isWard : MOK M_Model_isWard 3 := ⟨mTS (List.mem_of_getElem? (i := 1866) (by decide +kernel)) (by decide +kernel), mTS (List.mem_of_getElem? (i := 103) (by decide +kernel)) (by decide +kernel), mTS (List.mem_of_getElem? (i := 139) (by decide +kernel)) (by decide +kernel), cw_Model_isWard, ⟨by decide, by decide, by decide +kernel⟩, by decide +kernel, by decide⟩
theorem lk_Model_511 : Cond.methodLink "InquestHallModel" 511 M_Model_isKings.1 ∈ TS := mTS (List.mem_of_getElem? (i := 1872) (by decide +kernel)) (by decide +kernel)
theorem mok_Model_isKings : MOK M_Model_isKings 2 := ⟨mTS (List.mem_of_getElem? (i := 1874) (by decide +kernel)) (by decide +kernel), mTS (List.mem_of_getElem? (i := 105) (by decide +kernel)) (by decide +kernel), mTS (List.mem_of_getElem? (i := 139) (by decide +kernel)) (by decide +kernel), cw_Model_isKings, ⟨by decide, by decide, by decide +kernel⟩, by decide +kernel, by decide⟩
theorem lk_Model_514 : Cond.methodLink "InquestHallModel" 514 M_Model_guardian.1 ∈ TS := mTS (List.mem_of_getElem? (i := 1892) (by decide +kernel)) (by decide +kernel)
theorem mok_Model_guardian : MOK M_Model_guardian 3 := ⟨mTS (List.mem_of_getElem? (i := 1894) (by decide +kernel)) (by decide +kernel), mTS (List.mem_of_getElem? (i := 109) (by decide +kernel)) (by decide +kernel), mTS (List.mem_of_getElem? (i := 139) (by decide +kernel)) (by decide +kernel), cw_Model_guardian, ⟨by decide, by decide, by decide +kernel⟩, by decide +kernel, by decide⟩
theorem ct_Model_517 : Cond.constantLong "InquestHallModel" 517 (360 : Int64) ∈ TS := mTS (List.mem_of_getElem? (i := 1896) (by decide +kernel)) (by decide +kernel)
def tb_Model_ward : List (Nat × Instr × Nat) := [(0, .aload_n 0, 1), (1, .iload_n 1, 1), (2, .iload_n 2, 1), (3, .invokevirtual 475, 3), (6, .ifCond .eq 31, 3), (9, .aload_n 0, 1), (10, .iload_n 3, 1), (11, .invokevirtual 198, 3), (14, .ifCond .eq 23, 3), (17, .iload 4, 2), (19, .iconst 0, 1), (20, .iconst 5, 1), (21, .invokestatic 188, 3), (24, .ifCond .eq 13, 3), (27, .aload_n 0, 1), (28, .iload_n 1, 1), (29, .iload_n 2, 1), (30, .iload_n 3, 1), (31, .invokevirtual 496, 3), (34, .ifCond .ne 7, 3), (37, .ldc2_w 506, 3), (40, .lreturn, 1), (41, .aload_n 0, 1), (42, .iload_n 1, 1), (43, .iload_n 2, 1), (44, .iload_n 3, 1), (45, .invokevirtual 508, 3), (48, .istore 5, 2), (50, .iload 4, 2), (52, .ifCond .ne 14, 3), (55, .iload 5, 2), (57, .ifCond .eq 7, 3), (60, .lconst 1, 1), (61, .goto 4, 3), (64, .lconst 0, 1), (65, .lreturn, 1), (66, .iload 5, 2), (68, .ifCond .ne 7, 3), (71, .ldc2_w 506, 3), (74, .lreturn, 1), (75, .aload_n 0, 1), (76, .aload_n 0, 1), (77, .aload_n 0, 1), (78, .getfield 25, 3), (81, .iload_n 1, 1), (82, .iaload, 1), (83, .invokevirtual 417, 3), (86, .iload_n 2, 1), (87, .iload_n 3, 1), (88, .invokevirtual 490, 3), (91, .istore 6, 2), (93, .iload 4, 2), (95, .tableswitch 126 1 4 #[29, 44, 59, 83], 29), (124, .aload_n 0, 1), (125, .getfield 19, 3), (128, .iload_n 3, 1), (129, .iaload, 1), (130, .sipush 360, 3), (133, .iload 6, 2), (135, .imul, 1), (136, .iadd, 1), (137, .i2l, 1), (138, .lreturn, 1), (139, .aload_n 0, 1), (140, .getfield 22, 3), (143, .iload_n 3, 1), (144, .iaload, 1), (145, .sipush 360, 3), (148, .iload 6, 2), (150, .imul, 1), (151, .iadd, 1), (152, .i2l, 1), (153, .lreturn, 1), (154, .aload_n 0, 1), (155, .iload_n 1, 1), (156, .iload_n 2, 1), (157, .invokevirtual 511, 3), (160, .ifCond .eq 9, 3), (163, .ldc2_w 482, 3), (166, .goto 11, 3), (169, .aload_n 0, 1), (170, .iload_n 1, 1), (171, .iload_n 2, 1), (172, .iload_n 3, 1), (173, .invokevirtual 514, 3), (176, .i2l, 1), (177, .lreturn, 1), (178, .aload_n 0, 1), (179, .iload_n 2, 1), (180, .invokevirtual 222, 3), (183, .i2l, 1), (184, .aload_n 0, 1), (185, .getfield 432, 3), (188, .lmul, 1), (189, .aload_n 0, 1), (190, .getfield 19, 3), (193, .iload_n 3, 1), (194, .iaload, 1), (195, .sipush 360, 3), (198, .iload 6, 2), (200, .imul, 1), (201, .iadd, 1), (202, .aload_n 0, 1), (203, .getfield 25, 3), (206, .iload_n 1, 1), (207, .iaload, 1), (208, .isub, 1), (209, .i2l, 1), (210, .lmul, 1), (211, .aload_n 0, 1), (212, .getfield 436, 3), (215, .ldc2_w 517, 3), (218, .lmul, 1), (219, .ldiv, 1), (220, .lreturn, 1), (221, .aload_n 0, 1), (222, .iload_n 1, 1), (223, .iload_n 2, 1), (224, .invokevirtual 511, 3), (227, .ifCond .eq 7, 3), (230, .lconst 1, 1), (231, .goto 4, 3), (234, .lconst 0, 1), (235, .lreturn, 1)]
theorem D_Model_ward (i : Nat) {pc len : Nat} {ins : Instr} (hi : tb_Model_ward[i]? = some (pc, ins, len)) : decode M_Model_ward.2.1 pc = .ok (ins, len) := dec_of (by decide +kernel) i hi
def f_Model_ward (G : GS) (a1 : Int) (a2 : Int) (a3 : Int) (a4 : Int) : Option (Int × GS) :=
  (f_Model_canAsk G a1 a2).bind fun q1 =>
  if q1 = 0 then
    some ((-2), G)
  else
    (f_Model_isPerson G a3).bind fun q2 =>
    if q2 = 0 then
      some ((-2), G)
    else
      (f_Model_isIn G a4 0 5).bind fun q3 =>
      if q3 = 0 then
        some ((-2), G)
      else
        (f_Model_isHeir G a1 a2 a3).bind fun q4 =>
        if q4.1 = 0 then
          some ((-2), q4.2)
        else
          (f_Model_isWard q4.2 a1 a2 a3).bind fun q5 =>
          if a4 = 0 then
            if q5 = 0 then
              some (0, q4.2)
            else
              some (1, q4.2)
          else
            if q5 = 0 then
              some ((-2), q4.2)
            else
              gd (0 ≤ a1 ∧ a1 < 32) <|
              (f_Model_reignOn q4.2 (gi q4.2 87 a1.toNat)).bind fun q6 =>
              (f_Model_untilOf q4.2 q6 a2 a3).bind fun q7 =>
              if a4 = 1 then
                gd (0 ≤ a3 ∧ a3 < 32) <|
                some (wl (wr ((gi q4.2 85 a3.toNat) + (360 * q7))), q4.2)
              else
                if a4 = 2 then
                  gd (0 ≤ a3 ∧ a3 < 32) <|
                  some (wl (wr ((gi q4.2 86 a3.toNat) + (360 * q7))), q4.2)
                else
                  if a4 = 3 then
                    (f_Model_isKings q4.2 a1 a2).bind fun q8 =>
                    if q8.1 = 0 then
                      (f_Model_guardian q8.2 a1 a2 a3).bind fun q9 =>
                      some (wl q9, q8.2)
                    else
                      some ((-1), q8.2)
                  else
                    if a4 = 4 then
                      (f_Model_worthOf q4.2 a2).bind fun q10 =>
                      gd (0 ≤ a3 ∧ a3 < 32) <|
                      gd (0 ≤ a1 ∧ a1 < 32) <|
                      gd (¬ wl ((gl q4.2 81 62) * 360) = 0) <|
                      some (ldv ((q10 * (gl q4.2 81 61)) * (wr (((gi q4.2 85 a3.toNat) + (360 * q7)) - (gi q4.2 87 a1.toNat)))) ((gl q4.2 81 62) * 360), q4.2)
                    else
                      (f_Model_isKings q4.2 a1 a2).bind fun q11 =>
                      if q11.1 = 0 then
                        some (0, q11.2)
                      else
                        some (1, q11.2)
theorem c_Model_ward {X : XT} {G : GS} {a1 : Int} {a2 : Int} {a3 : Int} {a4 : Int} {r : Int × GS} (ha1 : wr a1 = a1) (ha2 : wr a2 = a2) (ha3 : wr a3 = a3) (ha4 : wr a4 = a4) (h : f_Model_ward G a1 a2 a3 a4 = some r) : Call X true 16 0 0 M_Model_ward [rf X 81, vi a1, vi a2, vi a3, vi a4] NC G (Rl r.1 r.2) := by
  refine Call_of_J cw_Model_ward (by decide +kernel) (Nat.le_of_ble_eq_true rfl) ?_
  unfold f_Model_ward at h
  show J X true 16 0 0 M_Model_ward (Rl r.1 r.2) NC 0 0 0 [(0, rf X 81), (1, vi a1), (2, vi a2), (3, vi a3), (4, vi a4)] [] G
  refine j_aloadn (k := 0) (D_Model_ward 0 rfl) rfl rfl ?_
  refine j_iloadn (k := 1) (D_Model_ward 1 rfl) rfl rfl ?_
  refine j_iloadn (k := 2) (D_Model_ward 2 rfl) rfl rfl ?_
  obtain ⟨q1, e1, h⟩ := Option.bind_eq_some_iff.mp h
  refine j_cVz (c_Model_canAsk (ha1) (ha2) e1) rfl lk_Model_475 mok_Model_canAsk kd_81 lc_81 rfl (by decide) rfl rfl (Nat.le_of_ble_eq_true rfl) (D_Model_ward 3 rfl) (fun w1 bw1 => ?_)
  refine j_if_eq (tgt := 37) (D_Model_ward 4 rfl) rfl (w1) (fun c1 => ?_) (fun c1 => ?_)
  · replace h := ite_t h c1
    refine j_ldc2 (v := (-2)) rfl ct_Model_506 (by decide) (D_Model_ward 20 rfl) ?_
    exact j_lret (D_Model_ward 21 rfl) rfl (wl_lit rfl) rfl rfl (leafL h (wl_n (wl_lit rfl)))
  · replace h := ite_f h c1
    refine j_aloadn (k := 0) (D_Model_ward 5 rfl) rfl rfl ?_
    refine j_iloadn (k := 3) (D_Model_ward 6 rfl) rfl rfl ?_
    obtain ⟨q2, e2, h⟩ := Option.bind_eq_some_iff.mp h
    refine j_cVz (c_Model_isPerson (ha3) e2) rfl lk_Model_198 mok_Model_isPerson kd_81 lc_81 rfl (by decide) rfl rfl (Nat.le_of_ble_eq_true rfl) (D_Model_ward 7 rfl) (fun w2 bw2 => ?_)
    refine j_if_eq (tgt := 37) (D_Model_ward 8 rfl) rfl (w2) (fun c2 => ?_) (fun c2 => ?_)
    · replace h := ite_t h c2
      refine j_ldc2 (v := (-2)) rfl ct_Model_506 (by decide) (D_Model_ward 20 rfl) ?_
      exact j_lret (D_Model_ward 21 rfl) rfl (wl_lit rfl) rfl rfl (leafL h (wl_n (wl_lit rfl)))
    · replace h := ite_f h c2
      refine j_iload (k := 4) (D_Model_ward 9 rfl) rfl ?_
      refine j_iconst (v := 0) (D_Model_ward 10 rfl) rfl ?_
      refine j_iconst (v := 5) (D_Model_ward 11 rfl) rfl ?_
      obtain ⟨q3, e3, h⟩ := Option.bind_eq_some_iff.mp h
      refine j_cSz (c_Model_isIn (ha4) (wr_lit rfl) (wr_lit rfl) e3) rfl lk_Model_188 sok_Model_isIn (by decide) rfl rfl (Nat.le_of_ble_eq_true rfl) (D_Model_ward 12 rfl) (fun w3 bw3 => ?_)
      refine j_if_eq (tgt := 37) (D_Model_ward 13 rfl) rfl (w3) (fun c3 => ?_) (fun c3 => ?_)
      · replace h := ite_t h c3
        refine j_ldc2 (v := (-2)) rfl ct_Model_506 (by decide) (D_Model_ward 20 rfl) ?_
        exact j_lret (D_Model_ward 21 rfl) rfl (wl_lit rfl) rfl rfl (leafL h (wl_n (wl_lit rfl)))
      · replace h := ite_f h c3
        refine j_aloadn (k := 0) (D_Model_ward 14 rfl) rfl rfl ?_
        refine j_iloadn (k := 1) (D_Model_ward 15 rfl) rfl rfl ?_
        refine j_iloadn (k := 2) (D_Model_ward 16 rfl) rfl rfl ?_
        refine j_iloadn (k := 3) (D_Model_ward 17 rfl) rfl rfl ?_
        obtain ⟨q4, e4, h⟩ := Option.bind_eq_some_iff.mp h
        refine j_cVz (c_Model_isHeir (ha1) (ha2) (ha3) e4) rfl lk_Model_496 mok_Model_isHeir kd_81 lc_81 rfl (by decide) rfl rfl (Nat.le_of_ble_eq_true rfl) (D_Model_ward 18 rfl) (fun w4 bw4 => ?_)
        refine j_if_ne (tgt := 41) (D_Model_ward 19 rfl) rfl (w4) (fun c4 => ?_) (fun c4 => ?_)
        · replace h := ite_f h c4
          refine j_aloadn (k := 0) (D_Model_ward 22 rfl) rfl rfl ?_
          refine j_iloadn (k := 1) (D_Model_ward 23 rfl) rfl rfl ?_
          refine j_iloadn (k := 2) (D_Model_ward 24 rfl) rfl rfl ?_
          refine j_iloadn (k := 3) (D_Model_ward 25 rfl) rfl rfl ?_
          obtain ⟨q5, e5, h⟩ := Option.bind_eq_some_iff.mp h
          refine j_cVz (c_Model_isWard (ha1) (ha2) (ha3) e5) rfl lk_Model_508 mok_Model_isWard kd_81 lc_81 rfl (by decide) rfl rfl (Nat.le_of_ble_eq_true rfl) (D_Model_ward 26 rfl) (fun w5 bw5 => ?_)
          refine j_istore (L' := [(5, vi q5), (0, rf X 81), (1, vi a1), (2, vi a2), (3, vi a3), (4, vi a4)]) (D_Model_ward 27 rfl) (w5) (by decide) rfl ?_
          refine j_iload (k := 5) (D_Model_ward 28 rfl) rfl ?_
          refine j_if_ne (tgt := 66) (D_Model_ward 29 rfl) rfl (ha4) (fun c5 => ?_) (fun c5 => ?_)
          · replace h := ite_f h c5
            refine j_iload (k := 0) (D_Model_ward 36 rfl) rfl ?_
            refine j_if_ne (tgt := 75) (D_Model_ward 37 rfl) rfl (w5) (fun c6 => ?_) (fun c6 => ?_)
            · replace h := ite_f h c6
              refine j_aloadn (k := 1) (D_Model_ward 40 rfl) rfl rfl ?_
              refine j_aloadn (k := 1) (D_Model_ward 41 rfl) rfl rfl ?_
              refine j_aloadn (k := 1) (D_Model_ward 42 rfl) rfl rfl ?_
              refine j_getR rfl fa_Model_25 kd_81 lc_81 (by decide) rfl fx_81_7 (by decide) (D_Model_ward 43 rfl) ?_
              refine j_iloadn (k := 2) (D_Model_ward 44 rfl) rfl rfl ?_
              have g1 := gd_c h
              replace h := gd_s h
              refine j_iald (NI := 32) (D_Model_ward 45 rfl) kd_87 lc_87 (ha1) rfl g1.1 g1.2 ?_
              obtain ⟨q6, e6, h⟩ := Option.bind_eq_some_iff.mp h
              refine j_cVi (c_Model_reignOn (wr_gi _ _ _) e6) rfl lk_Model_417 mok_Model_reignOn kd_81 lc_81 rfl (by decide) rfl rfl (Nat.le_of_ble_eq_true rfl) (D_Model_ward 46 rfl) (fun w6 => ?_)
              refine j_iloadn (k := 3) (D_Model_ward 47 rfl) rfl rfl ?_
              refine j_iloadn (k := 4) (D_Model_ward 48 rfl) rfl rfl ?_
              obtain ⟨q7, e7, h⟩ := Option.bind_eq_some_iff.mp h
              refine j_cVi (c_Model_untilOf (w6) (ha2) (ha3) e7) rfl lk_Model_490 mok_Model_untilOf kd_81 lc_81 rfl (by decide) rfl rfl (Nat.le_of_ble_eq_true rfl) (D_Model_ward 49 rfl) (fun w7 => ?_)
              refine j_istore (L' := [(6, vi q7), (5, vi q5), (0, rf X 81), (1, vi a1), (2, vi a2), (3, vi a3), (4, vi a4)]) (D_Model_ward 50 rfl) (w7) (by decide) rfl ?_
              refine j_iload (k := 6) (D_Model_ward 51 rfl) rfl ?_
              by_cases c7 : a4 = 1
              · replace h := ite_t h c7
                refine j_tIn (tgt := 124) (D_Model_ward 52 rfl) (ha4) c7 (by decide) (by decide) rfl rfl ?_
                refine j_aloadn (k := 2) (D_Model_ward 53 rfl) rfl rfl ?_
                refine j_getR rfl fa_Model_19 kd_81 lc_81 (by decide) rfl fx_81_5 (by decide) (D_Model_ward 54 rfl) ?_
                refine j_iloadn (k := 5) (D_Model_ward 55 rfl) rfl rfl ?_
                have g2 := gd_c h
                replace h := gd_s h
                refine j_iald (NI := 32) (D_Model_ward 56 rfl) kd_85 lc_85 (ha3) rfl g2.1 g2.2 ?_
                refine j_sipush (v := 360) (D_Model_ward 57 rfl) rfl ?_
                refine j_iload (k := 0) (D_Model_ward 58 rfl) rfl ?_
                refine j_imul (D_Model_ward 59 rfl) ?_
                refine j_iadd (D_Model_ward 60 rfl) ?_
                refine j_i2l (D_Model_ward 61 rfl) (rfl) ?_
                exact j_lret (D_Model_ward 62 rfl) rfl (rfl) rfl rfl (leafL h (wl_n (rfl)))
              · replace h := ite_f h c7
                by_cases c8 : a4 = 2
                · replace h := ite_t h c8
                  refine j_tIn (tgt := 139) (D_Model_ward 52 rfl) (ha4) c8 (by decide) (by decide) rfl rfl ?_
                  refine j_aloadn (k := 2) (D_Model_ward 63 rfl) rfl rfl ?_
                  refine j_getR rfl fa_Model_22 kd_81 lc_81 (by decide) rfl fx_81_6 (by decide) (D_Model_ward 64 rfl) ?_
                  refine j_iloadn (k := 5) (D_Model_ward 65 rfl) rfl rfl ?_
                  have g3 := gd_c h
                  replace h := gd_s h
                  refine j_iald (NI := 32) (D_Model_ward 66 rfl) kd_86 lc_86 (ha3) rfl g3.1 g3.2 ?_
                  refine j_sipush (v := 360) (D_Model_ward 67 rfl) rfl ?_
                  refine j_iload (k := 0) (D_Model_ward 68 rfl) rfl ?_
                  refine j_imul (D_Model_ward 69 rfl) ?_
                  refine j_iadd (D_Model_ward 70 rfl) ?_
                  refine j_i2l (D_Model_ward 71 rfl) (rfl) ?_
                  exact j_lret (D_Model_ward 72 rfl) rfl (rfl) rfl rfl (leafL h (wl_n (rfl)))
                · replace h := ite_f h c8
                  by_cases c9 : a4 = 3
                  · replace h := ite_t h c9
                    refine j_tIn (tgt := 154) (D_Model_ward 52 rfl) (ha4) c9 (by decide) (by decide) rfl rfl ?_
                    refine j_aloadn (k := 2) (D_Model_ward 73 rfl) rfl rfl ?_
                    refine j_iloadn (k := 3) (D_Model_ward 74 rfl) rfl rfl ?_
                    refine j_iloadn (k := 4) (D_Model_ward 75 rfl) rfl rfl ?_
                    obtain ⟨q8, e8, h⟩ := Option.bind_eq_some_iff.mp h
                    refine j_cVz (c_Model_isKings (ha1) (ha2) e8) rfl lk_Model_511 mok_Model_isKings kd_81 lc_81 rfl (by decide) rfl rfl (Nat.le_of_ble_eq_true rfl) (D_Model_ward 76 rfl) (fun w8 bw8 => ?_)
                    refine j_if_eq (tgt := 169) (D_Model_ward 77 rfl) rfl (w8) (fun c10 => ?_) (fun c10 => ?_)
                    · replace h := ite_t h c10
                      refine j_aloadn (k := 2) (D_Model_ward 80 rfl) rfl rfl ?_
                      refine j_iloadn (k := 3) (D_Model_ward 81 rfl) rfl rfl ?_
                      refine j_iloadn (k := 4) (D_Model_ward 82 rfl) rfl rfl ?_
                      refine j_iloadn (k := 5) (D_Model_ward 83 rfl) rfl rfl ?_
                      obtain ⟨q9, e9, h⟩ := Option.bind_eq_some_iff.mp h
                      refine j_cVi (c_Model_guardian (ha1) (ha2) (ha3) e9) rfl lk_Model_514 mok_Model_guardian kd_81 lc_81 rfl (by decide) rfl rfl (Nat.le_of_ble_eq_true rfl) (D_Model_ward 84 rfl) (fun w9 => ?_)
                      refine j_i2l (D_Model_ward 85 rfl) (w9) ?_
                      exact j_lret (D_Model_ward 86 rfl) rfl (rfl) rfl rfl (leafL h (wl_n (rfl)))
                    · replace h := ite_f h c10
                      refine j_ldc2 (v := (-1)) rfl ct_Model_482 (by decide) (D_Model_ward 78 rfl) ?_
                      refine j_goto (tgt := 177) (D_Model_ward 79 rfl) rfl ?_
                      exact j_lret (D_Model_ward 86 rfl) rfl (wl_lit rfl) rfl rfl (leafL h (wl_n (wl_lit rfl)))
                  · replace h := ite_f h c9
                    by_cases c11 : a4 = 4
                    · replace h := ite_t h c11
                      refine j_tIn (tgt := 178) (D_Model_ward 52 rfl) (ha4) c11 (by decide) (by decide) rfl rfl ?_
                      refine j_aloadn (k := 2) (D_Model_ward 87 rfl) rfl rfl ?_
                      refine j_iloadn (k := 4) (D_Model_ward 88 rfl) rfl rfl ?_
                      obtain ⟨q10, e10, h⟩ := Option.bind_eq_some_iff.mp h
                      refine j_cVi (c_Model_worthOf (ha2) e10) rfl lk_Model_222 mok_Model_worthOf kd_81 lc_81 rfl (by decide) rfl rfl (Nat.le_of_ble_eq_true rfl) (D_Model_ward 89 rfl) (fun w10 => ?_)
                      refine j_i2l (D_Model_ward 90 rfl) (w10) ?_
                      refine j_aloadn (k := 2) (D_Model_ward 91 rfl) rfl rfl ?_
                      refine j_getJ rfl fa_Model_432 kd_81 lc_81 (by decide) rfl (D_Model_ward 92 rfl) ?_
                      refine j_lmul (D_Model_ward 93 rfl) ?_
                      refine j_aloadn (k := 2) (D_Model_ward 94 rfl) rfl rfl ?_
                      refine j_getR rfl fa_Model_19 kd_81 lc_81 (by decide) rfl fx_81_5 (by decide) (D_Model_ward 95 rfl) ?_
                      refine j_iloadn (k := 5) (D_Model_ward 96 rfl) rfl rfl ?_
                      have g4 := gd_c h
                      replace h := gd_s h
                      refine j_iald (NI := 32) (D_Model_ward 97 rfl) kd_85 lc_85 (ha3) rfl g4.1 g4.2 ?_
                      refine j_sipush (v := 360) (D_Model_ward 98 rfl) rfl ?_
                      refine j_iload (k := 0) (D_Model_ward 99 rfl) rfl ?_
                      refine j_imul (D_Model_ward 100 rfl) ?_
                      refine j_iadd (D_Model_ward 101 rfl) ?_
                      refine j_aloadn (k := 2) (D_Model_ward 102 rfl) rfl rfl ?_
                      refine j_getR rfl fa_Model_25 kd_81 lc_81 (by decide) rfl fx_81_7 (by decide) (D_Model_ward 103 rfl) ?_
                      refine j_iloadn (k := 3) (D_Model_ward 104 rfl) rfl rfl ?_
                      have g5 := gd_c h
                      replace h := gd_s h
                      refine j_iald (NI := 32) (D_Model_ward 105 rfl) kd_87 lc_87 (ha1) rfl g5.1 g5.2 ?_
                      refine j_isub (D_Model_ward 106 rfl) ?_
                      refine j_i2l (D_Model_ward 107 rfl) (rfl) ?_
                      refine j_lmul (D_Model_ward 108 rfl) ?_
                      refine j_aloadn (k := 2) (D_Model_ward 109 rfl) rfl rfl ?_
                      refine j_getJ rfl fa_Model_436 kd_81 lc_81 (by decide) rfl (D_Model_ward 110 rfl) ?_
                      refine j_ldc2 (v := 360) rfl ct_Model_517 (by decide) (D_Model_ward 111 rfl) ?_
                      refine j_lmul (D_Model_ward 112 rfl) ?_
                      have g6 := gd_c h
                      replace h := gd_s h
                      refine j_ldiv (D_Model_ward 113 rfl) (rfl) g6 ?_
                      exact j_lret (D_Model_ward 114 rfl) rfl (wl_ldv _ _) rfl rfl (leafL h (wl_n (wl_ldv _ _)))
                    · replace h := ite_f h c11
                      refine j_tOut (tgt := 221) (D_Model_ward 52 rfl) (ha4) (by omega) rfl ?_
                      refine j_aloadn (k := 2) (D_Model_ward 115 rfl) rfl rfl ?_
                      refine j_iloadn (k := 3) (D_Model_ward 116 rfl) rfl rfl ?_
                      refine j_iloadn (k := 4) (D_Model_ward 117 rfl) rfl rfl ?_
                      obtain ⟨q11, e11, h⟩ := Option.bind_eq_some_iff.mp h
                      refine j_cVz (c_Model_isKings (ha1) (ha2) e11) rfl lk_Model_511 mok_Model_isKings kd_81 lc_81 rfl (by decide) rfl rfl (Nat.le_of_ble_eq_true rfl) (D_Model_ward 118 rfl) (fun w11 bw11 => ?_)
                      refine j_if_eq (tgt := 234) (D_Model_ward 119 rfl) rfl (w11) (fun c12 => ?_) (fun c12 => ?_)
                      · replace h := ite_t h c12
                        refine j_lconst (v := 0) (D_Model_ward 122 rfl) rfl ?_
                        exact j_lret (D_Model_ward 123 rfl) rfl (wl_lit rfl) rfl rfl (leafL h (wl_n (wl_lit rfl)))
                      · replace h := ite_f h c12
                        refine j_lconst (v := 1) (D_Model_ward 120 rfl) rfl ?_
                        refine j_goto (tgt := 235) (D_Model_ward 121 rfl) rfl ?_
                        exact j_lret (D_Model_ward 123 rfl) rfl (wl_lit rfl) rfl rfl (leafL h (wl_n (wl_lit rfl)))
            · replace h := ite_t h c6
              refine j_ldc2 (v := (-2)) rfl ct_Model_506 (by decide) (D_Model_ward 38 rfl) ?_
              exact j_lret (D_Model_ward 39 rfl) rfl (wl_lit rfl) rfl rfl (leafL h (wl_n (wl_lit rfl)))
          · replace h := ite_t h c5
            refine j_iload (k := 0) (D_Model_ward 30 rfl) rfl ?_
            refine j_if_eq (tgt := 64) (D_Model_ward 31 rfl) rfl (w5) (fun c13 => ?_) (fun c13 => ?_)
            · replace h := ite_t h c13
              refine j_lconst (v := 0) (D_Model_ward 34 rfl) rfl ?_
              exact j_lret (D_Model_ward 35 rfl) rfl (wl_lit rfl) rfl rfl (leafL h (wl_n (wl_lit rfl)))
            · replace h := ite_f h c13
              refine j_lconst (v := 1) (D_Model_ward 32 rfl) rfl ?_
              refine j_goto (tgt := 65) (D_Model_ward 33 rfl) rfl ?_
              exact j_lret (D_Model_ward 35 rfl) rfl (wl_lit rfl) rfl rfl (leafL h (wl_n (wl_lit rfl)))
        · replace h := ite_t h c4
          refine j_ldc2 (v := (-2)) rfl ct_Model_506 (by decide) (D_Model_ward 20 rfl) ?_
          exact j_lret (D_Model_ward 21 rfl) rfl (wl_lit rfl) rfl rfl (leafL h (wl_n (wl_lit rfl)))
abbrev M_Hall_relief : MI := (⟨"InquestHall", "relief", "(III)I"⟩, prog_1_method_20_code, 4, (some .int))
theorem cw_Hall_relief : Cond.code M_Hall_relief.1 M_Hall_relief.2.1 M_Hall_relief.2.2.1 M_Hall_relief.2.2.2 ∈ TS := mTS (List.mem_of_getElem? (i := 1096) (by decide +kernel)) (by decide +kernel)
theorem fa_Hall_246 : FA "InquestHall" 246 8 3 false .int := ⟨_, _, _, _, ok_Reckoner, by decide, mTS (List.mem_of_getElem? (i := 463) (by decide +kernel)) (by decide +kernel), rfl, rfl⟩
def tb_Hall_relief : List (Nat × Instr × Nat) := [(0, .aload_n 0, 1), (1, .iload_n 1, 1), (2, .iload_n 2, 1), (3, .iload_n 3, 1), (4, .invokevirtual 216, 3), (7, .ifCond .eq 13, 3), (10, .aload_n 0, 1), (11, .iload_n 1, 1), (12, .iload_n 2, 1), (13, .iload_n 3, 1), (14, .invokevirtual 222, 3), (17, .ifCond .ne 5, 3), (20, .iconst (-1), 1), (21, .ireturn, 1), (22, .aload_n 0, 1), (23, .getfield 60, 3), (26, .iload_n 3, 1), (27, .iconst 0, 1), (28, .invokevirtual 205, 3), (31, .aload_n 0, 1), (32, .iload_n 1, 1), (33, .iload_n 2, 1), (34, .iload_n 3, 1), (35, .invokevirtual 238, 3), (38, .aload_n 0, 1), (39, .getfield 67, 3), (42, .aload_n 0, 1), (43, .aload_n 0, 1), (44, .getfield 12, 3), (47, .getfield 131, 3), (50, .iload_n 1, 1), (51, .iaload, 1), (52, .invokevirtual 185, 3), (55, .invokevirtual 242, 3), (58, .iconst 0, 1), (59, .aload_n 0, 1), (60, .getfield 67, 3), (63, .getfield 246, 3), (66, .invokestatic 249, 3), (69, .ireturn, 1)]
theorem D_Hall_relief (i : Nat) {pc len : Nat} {ins : Instr} (hi : tb_Hall_relief[i]? = some (pc, ins, len)) : decode M_Hall_relief.2.1 pc = .ok (ins, len) := dec_of (by decide +kernel) i hi
def f_Hall_relief (G : GS) (a1 : Int) (a2 : Int) (a3 : Int) : Option (Int × GS) :=
  (f_Hall_isHeir G a1 a2 a3).bind fun q1 =>
  if q1.1 = 0 then
    some ((-1), q1.2)
  else
    (f_Hall_isOfAge q1.2 a1 a2 a3).bind fun q2 =>
    if q2 = 0 then
      some ((-1), q1.2)
    else
      (f_Descent_part q1.2 a3 0).bind fun q3 =>
      (f_Hall_ask q3 a1 a2 a3).bind fun q4 =>
      gd (0 ≤ a1 ∧ a1 < 32) <|
      (f_Hall_lawAt q4 (gi q4 7 a1.toNat)).bind fun q5 =>
      (f_Reckoner_reckon q4 q5).bind fun q6 =>
      some (max 0 (gi q6 35 3), q6)
theorem c_Hall_relief {X : XT} {G : GS} {a1 : Int} {a2 : Int} {a3 : Int} {r : Int × GS} (ha1 : wr a1 = a1) (ha2 : wr a2 = a2) (ha3 : wr a3 = a3) (h : f_Hall_relief G a1 a2 a3 = some r) : Call X true 14 0 0 M_Hall_relief [rf X 0, vi a1, vi a2, vi a3] NC G (Ri r.1 r.2) := by
  refine Call_of_J cw_Hall_relief (by decide +kernel) (Nat.le_of_ble_eq_true rfl) ?_
  unfold f_Hall_relief at h
  show J X true 14 0 0 M_Hall_relief (Ri r.1 r.2) NC 0 0 0 [(0, rf X 0), (1, vi a1), (2, vi a2), (3, vi a3)] [] G
  refine j_aloadn (k := 0) (D_Hall_relief 0 rfl) rfl rfl ?_
  refine j_iloadn (k := 1) (D_Hall_relief 1 rfl) rfl rfl ?_
  refine j_iloadn (k := 2) (D_Hall_relief 2 rfl) rfl rfl ?_
  refine j_iloadn (k := 3) (D_Hall_relief 3 rfl) rfl rfl ?_
  obtain ⟨q1, e1, h⟩ := Option.bind_eq_some_iff.mp h
  refine j_cVz (c_Hall_isHeir (ha1) (ha2) (ha3) e1) rfl lk_Hall_216 mok_Hall_isHeir kd_0 lc_0 rfl (by decide) rfl rfl (Nat.le_of_ble_eq_true rfl) (D_Hall_relief 4 rfl) (fun w1 bw1 => ?_)
  refine j_if_eq (tgt := 20) (D_Hall_relief 5 rfl) rfl (w1) (fun c1 => ?_) (fun c1 => ?_)
  · replace h := ite_t h c1
    refine j_iconst (v := (-1)) (D_Hall_relief 12 rfl) rfl ?_
    exact j_iret (D_Hall_relief 13 rfl) rfl (wr_lit rfl) rfl rfl (leafI h (wr_n (wr_lit rfl)))
  · replace h := ite_f h c1
    refine j_aloadn (k := 0) (D_Hall_relief 6 rfl) rfl rfl ?_
    refine j_iloadn (k := 1) (D_Hall_relief 7 rfl) rfl rfl ?_
    refine j_iloadn (k := 2) (D_Hall_relief 8 rfl) rfl rfl ?_
    refine j_iloadn (k := 3) (D_Hall_relief 9 rfl) rfl rfl ?_
    obtain ⟨q2, e2, h⟩ := Option.bind_eq_some_iff.mp h
    refine j_cVz (c_Hall_isOfAge (ha1) (ha2) (ha3) e2) rfl lk_Hall_222 mok_Hall_isOfAge kd_0 lc_0 rfl (by decide) rfl rfl (Nat.le_of_ble_eq_true rfl) (D_Hall_relief 10 rfl) (fun w2 bw2 => ?_)
    refine j_if_ne (tgt := 22) (D_Hall_relief 11 rfl) rfl (w2) (fun c2 => ?_) (fun c2 => ?_)
    · replace h := ite_f h c2
      refine j_aloadn (k := 0) (D_Hall_relief 14 rfl) rfl rfl ?_
      refine j_getR rfl fa_Hall_60 kd_0 lc_0 (by decide) rfl fx_0_6 (by decide) (D_Hall_relief 15 rfl) ?_
      refine j_iloadn (k := 3) (D_Hall_relief 16 rfl) rfl rfl ?_
      refine j_iconst (v := 0) (D_Hall_relief 17 rfl) rfl ?_
      obtain ⟨q3, e3, h⟩ := Option.bind_eq_some_iff.mp h
      refine j_cVv (c_Descent_part (ha3) (wr_lit rfl) e3) rfl lk_Hall_205 mok_Descent_part kd_30 lc_30 rfl (by decide) rfl rfl (Nat.le_of_ble_eq_true rfl) (D_Hall_relief 18 rfl) ?_
      refine j_aloadn (k := 0) (D_Hall_relief 19 rfl) rfl rfl ?_
      refine j_iloadn (k := 1) (D_Hall_relief 20 rfl) rfl rfl ?_
      refine j_iloadn (k := 2) (D_Hall_relief 21 rfl) rfl rfl ?_
      refine j_iloadn (k := 3) (D_Hall_relief 22 rfl) rfl rfl ?_
      obtain ⟨q4, e4, h⟩ := Option.bind_eq_some_iff.mp h
      refine j_cVv (c_Hall_ask (ha1) (ha2) (ha3) e4) rfl lk_Hall_238 mok_Hall_ask kd_0 lc_0 rfl (by decide) rfl rfl (Nat.le_of_ble_eq_true rfl) (D_Hall_relief 23 rfl) ?_
      refine j_aloadn (k := 0) (D_Hall_relief 24 rfl) rfl rfl ?_
      refine j_getR rfl fa_Hall_67 kd_0 lc_0 (by decide) rfl fx_0_7 (by decide) (D_Hall_relief 25 rfl) ?_
      refine j_aloadn (k := 0) (D_Hall_relief 26 rfl) rfl rfl ?_
      refine j_aloadn (k := 0) (D_Hall_relief 27 rfl) rfl rfl ?_
      refine j_getR rfl fa_Hall_12 kd_0 lc_0 (by decide) rfl fx_0_0 (by decide) (D_Hall_relief 28 rfl) ?_
      refine j_getR rfl fa_Hall_131 kd_1 lc_1 (by decide) rfl fx_1_5 (by decide) (D_Hall_relief 29 rfl) ?_
      refine j_iloadn (k := 1) (D_Hall_relief 30 rfl) rfl rfl ?_
      have g1 := gd_c h
      replace h := gd_s h
      refine j_iald (NI := 32) (D_Hall_relief 31 rfl) kd_7 lc_7 (ha1) rfl g1.1 g1.2 ?_
      obtain ⟨q5, e5, h⟩ := Option.bind_eq_some_iff.mp h
      refine j_cVr (c_Hall_lawAt (wr_gi _ _ _) e5) rfl lk_Hall_185 mok_Hall_lawAt kd_0 lc_0 rfl (by decide) rfl rfl (Nat.le_of_ble_eq_true rfl) (D_Hall_relief 32 rfl) (fun w3 => ?_)
      obtain ⟨q6, e6, h⟩ := Option.bind_eq_some_iff.mp h
      refine j_cVv (c_Reckoner_reckon w3 e6) rfl lk_Hall_242 mok_Reckoner_reckon kd_35 lc_35 rfl (by decide) rfl rfl (Nat.le_of_ble_eq_true rfl) (D_Hall_relief 33 rfl) ?_
      refine j_iconst (v := 0) (D_Hall_relief 34 rfl) rfl ?_
      refine j_aloadn (k := 0) (D_Hall_relief 35 rfl) rfl rfl ?_
      refine j_getR rfl fa_Hall_67 kd_0 lc_0 (by decide) rfl fx_0_7 (by decide) (D_Hall_relief 36 rfl) ?_
      refine j_getI rfl fa_Hall_246 kd_35 lc_35 (by decide) rfl (D_Hall_relief 37 rfl) ?_
      refine j_mmax (wr_lit rfl) (wr_gi _ _ _) rfl lk_Hall_249 (by decide) (Nat.le_of_ble_eq_true rfl) (D_Hall_relief 38 rfl) ?_
      exact j_iret (D_Hall_relief 39 rfl) rfl (wr_max (wr_n (wr_lit rfl)) (wr_n (wr_gi _ _ _))) rfl rfl (leafI h (wr_n (wr_max (wr_n (wr_lit rfl)) (wr_n (wr_gi _ _ _)))))
    · replace h := ite_t h c2
      refine j_iconst (v := (-1)) (D_Hall_relief 12 rfl) rfl ?_
      exact j_iret (D_Hall_relief 13 rfl) rfl (wr_lit rfl) rfl rfl (leafI h (wr_n (wr_lit rfl)))
abbrev M_Model_relief : MI := (⟨"InquestHallModel", "relief", "(III)I"⟩, prog_14_method_76_code, 9, (some .int))
theorem cw_Model_relief : Cond.code M_Model_relief.1 M_Model_relief.2.1 M_Model_relief.2.2.1 M_Model_relief.2.2.2 ∈ TS := mTS (List.mem_of_getElem? (i := 1900) (by decide +kernel)) (by decide +kernel)
def tb_Model_relief : List (Nat × Instr × Nat) := [(0, .aload_n 0, 1), (1, .iload_n 1, 1), (2, .iload_n 2, 1), (3, .invokevirtual 475, 3), (6, .ifCond .eq 31, 3), (9, .aload_n 0, 1), (10, .iload_n 3, 1), (11, .invokevirtual 198, 3), (14, .ifCond .eq 23, 3), (17, .aload_n 0, 1), (18, .iload_n 1, 1), (19, .iload_n 2, 1), (20, .iload_n 3, 1), (21, .invokevirtual 496, 3), (24, .ifCond .eq 13, 3), (27, .aload_n 0, 1), (28, .iload_n 1, 1), (29, .iload_n 2, 1), (30, .iload_n 3, 1), (31, .invokevirtual 508, 3), (34, .ifCond .eq 5, 3), (37, .iconst (-1), 1), (38, .ireturn, 1), (39, .aload_n 0, 1), (40, .iload_n 1, 1), (41, .iload_n 2, 1), (42, .iload_n 3, 1), (43, .invokevirtual 499, 3), (46, .aload_n 0, 1), (47, .aload_n 0, 1), (48, .getfield 25, 3), (51, .iload_n 1, 1), (52, .iaload, 1), (53, .invokevirtual 417, 3), (56, .istore 4, 2), (58, .iconst 0, 1), (59, .istore 5, 2), (61, .iconst 0, 1), (62, .istore 6, 2), (64, .iload 6, 2), (66, .aload_n 0, 1), (67, .getfield 76, 3), (70, .iload 4, 2), (72, .iaload, 1), (73, .if_icmp .ge 109, 3), (76, .aload_n 0, 1), (77, .getfield 79, 3), (80, .bipush 30, 2), (82, .iload 4, 2), (84, .imul, 1), (85, .iload 6, 2), (87, .iadd, 1), (88, .iaload, 1), (89, .bipush 8, 2), (91, .if_icmp .eq 6, 3), (94, .goto 82, 3), (97, .aload_n 0, 1), (98, .getfield 85, 3), (101, .bipush 30, 2), (103, .iload 4, 2), (105, .imul, 1), (106, .iload 6, 2), (108, .iadd, 1), (109, .iaload, 1), (110, .istore 7, 2), (112, .aload_n 0, 1), (113, .getfield 82, 3), (116, .bipush 31, 2), (118, .iload 4, 2), (120, .imul, 1), (121, .iload 6, 2), (123, .iadd, 1), (124, .iconst 1, 1), (125, .iadd, 1), (126, .iaload, 1), (127, .istore 8, 2), (129, .iload 7, 2), (131, .iload 8, 2), (133, .if_icmp .eq 17, 3), (136, .aload_n 0, 1), (137, .iload 4, 2), (139, .iload 7, 2), (141, .iload 8, 2), (143, .invokevirtual 503, 3), (146, .iconst 1, 1), (147, .if_icmp .ne 29, 3), (150, .iload 5, 2), (152, .aload_n 0, 1), (153, .iload 4, 2), (155, .aload_n 0, 1), (156, .getfield 82, 3), (159, .bipush 31, 2), (161, .iload 4, 2), (163, .imul, 1), (164, .iload 6, 2), (166, .iadd, 1), (167, .iaload, 1), (168, .iload 7, 2), (170, .invokevirtual 503, 3), (173, .iadd, 1), (174, .istore 5, 2), (176, .iinc 6 1, 3), (179, .goto (-115), 3), (182, .iload 5, 2), (184, .ifCond .le 8, 3), (187, .iload 5, 2), (189, .goto 4, 3), (192, .iconst 0, 1), (193, .ireturn, 1)]
theorem D_Model_relief (i : Nat) {pc len : Nat} {ins : Instr} (hi : tb_Model_relief[i]? = some (pc, ins, len)) : decode M_Model_relief.2.1 pc = .ok (ins, len) := dec_of (by decide +kernel) i hi
def f_Model_relief_L176 (k64 : GS → Int → Int → Int → Option (Int × GS)) (G : GS) (x4 : Int) (x5 : Int) (x6 : Int) : Option (Int × GS) :=
  k64 G x4 x5 (wr (x6 + 1))
theorem s_Model_relief_L176 {X : XT} {r : Int × GS} {k64 : GS → Int → Int → Int → Option (Int × GS)} (hk64 : ∀ {G : GS} {x4 : Int} {x5 : Int} {x6 : Int} , wr x4 = x4 → wr x5 = x5 → wr x6 = x6 → k64 G x4 x5 x6 = some r → J X true 15 0 0 M_Model_relief (Ri r.1 r.2) NC 0 0 64 [(0, rf X 81), (4, vi x4), (5, vi x5), (6, vi x6)] [] G) : ∀ {G : GS} {x4 : Int} {x5 : Int} {x6 : Int}, wr x4 = x4 → wr x5 = x5 → wr x6 = x6 → f_Model_relief_L176 k64 G x4 x5 x6 = some r → J X true 15 0 0 M_Model_relief (Ri r.1 r.2) NC 0 0 176 [(0, rf X 81), (4, vi x4), (5, vi x5), (6, vi x6)] [] G := by
  intro G x4 x5 x6 hx4 hx5 hx6 h
  unfold f_Model_relief_L176 at h
  refine j_iinc (k := 3) (L' := [(6, vi (wr (x6 + 1))), (0, rf X 81), (4, vi x4), (5, vi x5)]) (D_Model_relief 101 rfl) rfl rfl (by decide) rfl ?_
  refine j_goto (tgt := 64) (D_Model_relief 102 rfl) rfl ?_
  refine j_loc [1, 2, 3, 0] rfl ?_
  exact hk64 (hx4) (hx5) (wr_wr _) h
def f_Model_relief_L150 (k64 : GS → Int → Int → Int → Option (Int × GS)) (G : GS) (x4 : Int) (x5 : Int) (x6 : Int) (x7 : Int) : Option (Int × GS) :=
  gd (0 ≤ wr ((31 * x4) + x6) ∧ wr ((31 * x4) + x6) < 124) <|
  (f_Model_comesTo G x4 (gi G 106 (wr ((31 * x4) + x6)).toNat) x7).bind fun q1 =>
  f_Model_relief_L176 k64 q1.2 x4 (wr (x5 + q1.1)) x6
theorem s_Model_relief_L150 {X : XT} {r : Int × GS} {k64 : GS → Int → Int → Int → Option (Int × GS)} (hk64 : ∀ {G : GS} {x4 : Int} {x5 : Int} {x6 : Int} , wr x4 = x4 → wr x5 = x5 → wr x6 = x6 → k64 G x4 x5 x6 = some r → J X true 15 0 0 M_Model_relief (Ri r.1 r.2) NC 0 0 64 [(0, rf X 81), (4, vi x4), (5, vi x5), (6, vi x6)] [] G) : ∀ {G : GS} {x4 : Int} {x5 : Int} {x6 : Int} {x7 : Int}, wr x4 = x4 → wr x5 = x5 → wr x6 = x6 → wr x7 = x7 → f_Model_relief_L150 k64 G x4 x5 x6 x7 = some r → J X true 15 0 0 M_Model_relief (Ri r.1 r.2) NC 0 0 150 [(0, rf X 81), (4, vi x4), (5, vi x5), (6, vi x6), (7, vi x7)] [] G := by
  intro G x4 x5 x6 x7 hx4 hx5 hx6 hx7 h
  unfold f_Model_relief_L150 at h
  refine j_iload (k := 2) (D_Model_relief 86 rfl) rfl ?_
  refine j_aloadn (k := 0) (D_Model_relief 87 rfl) rfl rfl ?_
  refine j_iload (k := 1) (D_Model_relief 88 rfl) rfl ?_
  refine j_aloadn (k := 0) (D_Model_relief 89 rfl) rfl rfl ?_
  refine j_getR rfl fa_Model_82 kd_81 lc_81 (by decide) rfl fx_81_28 (by decide) (D_Model_relief 90 rfl) ?_
  refine j_bipush (v := 31) (D_Model_relief 91 rfl) rfl ?_
  refine j_iload (k := 1) (D_Model_relief 92 rfl) rfl ?_
  refine j_imul (D_Model_relief 93 rfl) ?_
  refine j_iload (k := 3) (D_Model_relief 94 rfl) rfl ?_
  refine j_iadd (D_Model_relief 95 rfl) ?_
  have g1 := gd_c h
  replace h := gd_s h
  refine j_iald (NI := 124) (D_Model_relief 96 rfl) kd_106 lc_106 (rfl) rfl g1.1 g1.2 ?_
  refine j_iload (k := 4) (D_Model_relief 97 rfl) rfl ?_
  obtain ⟨q1, e1, h⟩ := Option.bind_eq_some_iff.mp h
  refine j_cVi (c_Model_comesTo (hx4) (wr_gi _ _ _) (hx7) e1) rfl lk_Model_503 mok_Model_comesTo kd_81 lc_81 rfl (by decide) rfl rfl (Nat.le_of_ble_eq_true rfl) (D_Model_relief 98 rfl) (fun w1 => ?_)
  refine j_iadd (D_Model_relief 99 rfl) ?_
  refine j_istore (L' := [(5, vi (wr (x5 + q1.1))), (0, rf X 81), (4, vi x4), (6, vi x6), (7, vi x7)]) (D_Model_relief 100 rfl) (rfl) (by decide) rfl ?_
  refine j_loc [1, 2, 0, 3] rfl ?_
  exact s_Model_relief_L176 hk64 (hx4) (wr_wr _) (hx6) h
def f_Model_relief_L64 : Nat → GS → Int → Int → Int → Option (Int × GS)
  | 0, _, _, _, _ => none
  | n + 1, G, x4, x5, x6 =>
    gd (0 ≤ x4 ∧ x4 < 4) <|
    if gi G 104 x4.toNat ≤ x6 then
      if x5 ≤ 0 then
        some (0, G)
      else
        some (x5, G)
    else
      gd (0 ≤ wr ((30 * x4) + x6) ∧ wr ((30 * x4) + x6) < 120) <|
      if gi G 105 (wr ((30 * x4) + x6)).toNat = 8 then
        gd (0 ≤ wr ((30 * x4) + x6) ∧ wr ((30 * x4) + x6) < 120) <|
        gd (0 ≤ wr (((31 * x4) + x6) + 1) ∧ wr (((31 * x4) + x6) + 1) < 124) <|
        if gi G 107 (wr ((30 * x4) + x6)).toNat = gi G 106 (wr (((31 * x4) + x6) + 1)).toNat then
          f_Model_relief_L150 (f_Model_relief_L64 n) G x4 x5 x6 (gi G 107 (wr ((30 * x4) + x6)).toNat)
        else
          (f_Model_comesTo G x4 (gi G 107 (wr ((30 * x4) + x6)).toNat) (gi G 106 (wr (((31 * x4) + x6) + 1)).toNat)).bind fun q1 =>
          if q1.1 = 1 then
            f_Model_relief_L150 (f_Model_relief_L64 n) q1.2 x4 x5 x6 (gi G 107 (wr ((30 * x4) + x6)).toNat)
          else
            f_Model_relief_L176 (f_Model_relief_L64 n) q1.2 x4 x5 x6
      else
        f_Model_relief_L176 (f_Model_relief_L64 n) G x4 x5 x6
theorem s_Model_relief_L64 {X : XT} {r : Int × GS} : ∀ (n : Nat) {G : GS} {x4 : Int} {x5 : Int} {x6 : Int}, wr x4 = x4 → wr x5 = x5 → wr x6 = x6 → f_Model_relief_L64 n G x4 x5 x6 = some r → J X true 15 0 0 M_Model_relief (Ri r.1 r.2) NC 0 0 64 [(0, rf X 81), (4, vi x4), (5, vi x5), (6, vi x6)] [] G := by
  intro n
  induction n with
  | zero =>
    intro G x4 x5 x6 hx4 hx5 hx6 h
    exact none_some h
  | succ n ih =>
    intro G x4 x5 x6 hx4 hx5 hx6 h
    rw [f_Model_relief_L64] at h
    refine j_iload (k := 3) (D_Model_relief 39 rfl) rfl ?_
    refine j_aloadn (k := 0) (D_Model_relief 40 rfl) rfl rfl ?_
    refine j_getR rfl fa_Model_76 kd_81 lc_81 (by decide) rfl fx_81_26 (by decide) (D_Model_relief 41 rfl) ?_
    refine j_iload (k := 1) (D_Model_relief 42 rfl) rfl ?_
    have g1 := gd_c h
    replace h := gd_s h
    refine j_iald (NI := 4) (D_Model_relief 43 rfl) kd_104 lc_104 (hx4) rfl g1.1 g1.2 ?_
    refine j_ic_ge (tgt := 182) (D_Model_relief 44 rfl) rfl (hx6) (wr_gi _ _ _) (fun c1 => ?_) (fun c1 => ?_)
    · replace h := ite_t h c1
      refine j_iload (k := 2) (D_Model_relief 103 rfl) rfl ?_
      refine j_if_le (tgt := 192) (D_Model_relief 104 rfl) rfl (hx5) (fun c2 => ?_) (fun c2 => ?_)
      · replace h := ite_t h c2
        refine j_iconst (v := 0) (D_Model_relief 107 rfl) rfl ?_
        exact j_iret (D_Model_relief 108 rfl) rfl (wr_lit rfl) rfl rfl (leafI h (wr_n (wr_lit rfl)))
      · replace h := ite_f h c2
        refine j_iload (k := 2) (D_Model_relief 105 rfl) rfl ?_
        refine j_goto (tgt := 193) (D_Model_relief 106 rfl) rfl ?_
        exact j_iret (D_Model_relief 108 rfl) rfl (hx5) rfl rfl (leafI h (wr_n (hx5)))
    · replace h := ite_f h c1
      refine j_aloadn (k := 0) (D_Model_relief 45 rfl) rfl rfl ?_
      refine j_getR rfl fa_Model_79 kd_81 lc_81 (by decide) rfl fx_81_27 (by decide) (D_Model_relief 46 rfl) ?_
      refine j_bipush (v := 30) (D_Model_relief 47 rfl) rfl ?_
      refine j_iload (k := 1) (D_Model_relief 48 rfl) rfl ?_
      refine j_imul (D_Model_relief 49 rfl) ?_
      refine j_iload (k := 3) (D_Model_relief 50 rfl) rfl ?_
      refine j_iadd (D_Model_relief 51 rfl) ?_
      have g2 := gd_c h
      replace h := gd_s h
      refine j_iald (NI := 120) (D_Model_relief 52 rfl) kd_105 lc_105 (rfl) rfl g2.1 g2.2 ?_
      refine j_bipush (v := 8) (D_Model_relief 53 rfl) rfl ?_
      refine j_ic_eq (tgt := 97) (D_Model_relief 54 rfl) rfl (wr_gi _ _ _) (wr_lit rfl) (fun c3 => ?_) (fun c3 => ?_)
      · replace h := ite_t h c3
        refine j_aloadn (k := 0) (D_Model_relief 56 rfl) rfl rfl ?_
        refine j_getR rfl fa_Model_85 kd_81 lc_81 (by decide) rfl fx_81_29 (by decide) (D_Model_relief 57 rfl) ?_
        refine j_bipush (v := 30) (D_Model_relief 58 rfl) rfl ?_
        refine j_iload (k := 1) (D_Model_relief 59 rfl) rfl ?_
        refine j_imul (D_Model_relief 60 rfl) ?_
        refine j_iload (k := 3) (D_Model_relief 61 rfl) rfl ?_
        refine j_iadd (D_Model_relief 62 rfl) ?_
        have g3 := gd_c h
        replace h := gd_s h
        refine j_iald (NI := 120) (D_Model_relief 63 rfl) kd_107 lc_107 (rfl) rfl g3.1 g3.2 ?_
        refine j_istore (L' := [(7, vi (gi G 107 (wr ((30 * x4) + x6)).toNat)), (0, rf X 81), (4, vi x4), (5, vi x5), (6, vi x6)]) (D_Model_relief 64 rfl) (wr_gi _ _ _) (by decide) rfl ?_
        refine j_aloadn (k := 1) (D_Model_relief 65 rfl) rfl rfl ?_
        refine j_getR rfl fa_Model_82 kd_81 lc_81 (by decide) rfl fx_81_28 (by decide) (D_Model_relief 66 rfl) ?_
        refine j_bipush (v := 31) (D_Model_relief 67 rfl) rfl ?_
        refine j_iload (k := 2) (D_Model_relief 68 rfl) rfl ?_
        refine j_imul (D_Model_relief 69 rfl) ?_
        refine j_iload (k := 4) (D_Model_relief 70 rfl) rfl ?_
        refine j_iadd (D_Model_relief 71 rfl) ?_
        refine j_iconst (v := 1) (D_Model_relief 72 rfl) rfl ?_
        refine j_iadd (D_Model_relief 73 rfl) ?_
        have g4 := gd_c h
        replace h := gd_s h
        refine j_iald (NI := 124) (D_Model_relief 74 rfl) kd_106 lc_106 (rfl) rfl g4.1 g4.2 ?_
        refine j_istore (L' := [(8, vi (gi G 106 (wr (((31 * x4) + x6) + 1)).toNat)), (7, vi (gi G 107 (wr ((30 * x4) + x6)).toNat)), (0, rf X 81), (4, vi x4), (5, vi x5), (6, vi x6)]) (D_Model_relief 75 rfl) (wr_gi _ _ _) (by decide) rfl ?_
        refine j_iload (k := 1) (D_Model_relief 76 rfl) rfl ?_
        refine j_iload (k := 0) (D_Model_relief 77 rfl) rfl ?_
        refine j_ic_eq (tgt := 150) (D_Model_relief 78 rfl) rfl (wr_gi _ _ _) (wr_gi _ _ _) (fun c4 => ?_) (fun c4 => ?_)
        · replace h := ite_t h c4
          refine j_loc [2, 3, 4, 5, 1] rfl ?_
          exact s_Model_relief_L150 ih (hx4) (hx5) (hx6) (wr_gi _ _ _) h
        · replace h := ite_f h c4
          refine j_aloadn (k := 2) (D_Model_relief 79 rfl) rfl rfl ?_
          refine j_iload (k := 3) (D_Model_relief 80 rfl) rfl ?_
          refine j_iload (k := 1) (D_Model_relief 81 rfl) rfl ?_
          refine j_iload (k := 0) (D_Model_relief 82 rfl) rfl ?_
          obtain ⟨q1, e1, h⟩ := Option.bind_eq_some_iff.mp h
          refine j_cVi (c_Model_comesTo (hx4) (wr_gi _ _ _) (wr_gi _ _ _) e1) rfl lk_Model_503 mok_Model_comesTo kd_81 lc_81 rfl (by decide) rfl rfl (Nat.le_of_ble_eq_true rfl) (D_Model_relief 83 rfl) (fun w1 => ?_)
          refine j_iconst (v := 1) (D_Model_relief 84 rfl) rfl ?_
          refine j_ic_ne (tgt := 176) (D_Model_relief 85 rfl) rfl (w1) (wr_lit rfl) (fun c5 => ?_) (fun c5 => ?_)
          · replace h := ite_f h c5
            refine j_loc [2, 3, 4, 5] rfl ?_
            exact s_Model_relief_L176 ih (hx4) (hx5) (hx6) h
          · replace h := ite_t h c5
            refine j_loc [2, 3, 4, 5, 1] rfl ?_
            exact s_Model_relief_L150 ih (hx4) (hx5) (hx6) (wr_gi _ _ _) h
      · replace h := ite_f h c3
        refine j_goto (tgt := 176) (D_Model_relief 55 rfl) rfl ?_
        refine j_loc [0, 1, 2, 3] rfl ?_
        exact s_Model_relief_L176 ih (hx4) (hx5) (hx6) h
def f_Model_relief (G : GS) (a1 : Int) (a2 : Int) (a3 : Int) : Option (Int × GS) :=
  (f_Model_canAsk G a1 a2).bind fun q1 =>
  if q1 = 0 then
    some ((-1), G)
  else
    (f_Model_isPerson G a3).bind fun q2 =>
    if q2 = 0 then
      some ((-1), G)
    else
      (f_Model_isHeir G a1 a2 a3).bind fun q3 =>
      if q3.1 = 0 then
        some ((-1), q3.2)
      else
        (f_Model_isWard q3.2 a1 a2 a3).bind fun q4 =>
        if q4 = 0 then
          (f_Model_gathers q3.2 a1 a2 a3).bind fun q5 =>
          gd (0 ≤ a1 ∧ a1 < 32) <|
          (f_Model_reignOn q5 (gi q5 87 a1.toNat)).bind fun q6 =>
          f_Model_relief_L64 FU q5 q6 0 0
        else
          some ((-1), q3.2)
theorem c_Model_relief {X : XT} {G : GS} {a1 : Int} {a2 : Int} {a3 : Int} {r : Int × GS} (ha1 : wr a1 = a1) (ha2 : wr a2 = a2) (ha3 : wr a3 = a3) (h : f_Model_relief G a1 a2 a3 = some r) : Call X true 15 0 0 M_Model_relief [rf X 81, vi a1, vi a2, vi a3] NC G (Ri r.1 r.2) := by
  refine Call_of_J cw_Model_relief (by decide +kernel) (Nat.le_of_ble_eq_true rfl) ?_
  unfold f_Model_relief at h
  show J X true 15 0 0 M_Model_relief (Ri r.1 r.2) NC 0 0 0 [(0, rf X 81), (1, vi a1), (2, vi a2), (3, vi a3)] [] G
  refine j_aloadn (k := 0) (D_Model_relief 0 rfl) rfl rfl ?_
  refine j_iloadn (k := 1) (D_Model_relief 1 rfl) rfl rfl ?_
  refine j_iloadn (k := 2) (D_Model_relief 2 rfl) rfl rfl ?_
  obtain ⟨q1, e1, h⟩ := Option.bind_eq_some_iff.mp h
  refine j_cVz (c_Model_canAsk (ha1) (ha2) e1) rfl lk_Model_475 mok_Model_canAsk kd_81 lc_81 rfl (by decide) rfl rfl (Nat.le_of_ble_eq_true rfl) (D_Model_relief 3 rfl) (fun w1 bw1 => ?_)
  refine j_if_eq (tgt := 37) (D_Model_relief 4 rfl) rfl (w1) (fun c1 => ?_) (fun c1 => ?_)
  · replace h := ite_t h c1
    refine j_iconst (v := (-1)) (D_Model_relief 21 rfl) rfl ?_
    exact j_iret (D_Model_relief 22 rfl) rfl (wr_lit rfl) rfl rfl (leafI h (wr_n (wr_lit rfl)))
  · replace h := ite_f h c1
    refine j_aloadn (k := 0) (D_Model_relief 5 rfl) rfl rfl ?_
    refine j_iloadn (k := 3) (D_Model_relief 6 rfl) rfl rfl ?_
    obtain ⟨q2, e2, h⟩ := Option.bind_eq_some_iff.mp h
    refine j_cVz (c_Model_isPerson (ha3) e2) rfl lk_Model_198 mok_Model_isPerson kd_81 lc_81 rfl (by decide) rfl rfl (Nat.le_of_ble_eq_true rfl) (D_Model_relief 7 rfl) (fun w2 bw2 => ?_)
    refine j_if_eq (tgt := 37) (D_Model_relief 8 rfl) rfl (w2) (fun c2 => ?_) (fun c2 => ?_)
    · replace h := ite_t h c2
      refine j_iconst (v := (-1)) (D_Model_relief 21 rfl) rfl ?_
      exact j_iret (D_Model_relief 22 rfl) rfl (wr_lit rfl) rfl rfl (leafI h (wr_n (wr_lit rfl)))
    · replace h := ite_f h c2
      refine j_aloadn (k := 0) (D_Model_relief 9 rfl) rfl rfl ?_
      refine j_iloadn (k := 1) (D_Model_relief 10 rfl) rfl rfl ?_
      refine j_iloadn (k := 2) (D_Model_relief 11 rfl) rfl rfl ?_
      refine j_iloadn (k := 3) (D_Model_relief 12 rfl) rfl rfl ?_
      obtain ⟨q3, e3, h⟩ := Option.bind_eq_some_iff.mp h
      refine j_cVz (c_Model_isHeir (ha1) (ha2) (ha3) e3) rfl lk_Model_496 mok_Model_isHeir kd_81 lc_81 rfl (by decide) rfl rfl (Nat.le_of_ble_eq_true rfl) (D_Model_relief 13 rfl) (fun w3 bw3 => ?_)
      refine j_if_eq (tgt := 37) (D_Model_relief 14 rfl) rfl (w3) (fun c3 => ?_) (fun c3 => ?_)
      · replace h := ite_t h c3
        refine j_iconst (v := (-1)) (D_Model_relief 21 rfl) rfl ?_
        exact j_iret (D_Model_relief 22 rfl) rfl (wr_lit rfl) rfl rfl (leafI h (wr_n (wr_lit rfl)))
      · replace h := ite_f h c3
        refine j_aloadn (k := 0) (D_Model_relief 15 rfl) rfl rfl ?_
        refine j_iloadn (k := 1) (D_Model_relief 16 rfl) rfl rfl ?_
        refine j_iloadn (k := 2) (D_Model_relief 17 rfl) rfl rfl ?_
        refine j_iloadn (k := 3) (D_Model_relief 18 rfl) rfl rfl ?_
        obtain ⟨q4, e4, h⟩ := Option.bind_eq_some_iff.mp h
        refine j_cVz (c_Model_isWard (ha1) (ha2) (ha3) e4) rfl lk_Model_508 mok_Model_isWard kd_81 lc_81 rfl (by decide) rfl rfl (Nat.le_of_ble_eq_true rfl) (D_Model_relief 19 rfl) (fun w4 bw4 => ?_)
        refine j_if_eq (tgt := 39) (D_Model_relief 20 rfl) rfl (w4) (fun c4 => ?_) (fun c4 => ?_)
        · replace h := ite_t h c4
          refine j_aloadn (k := 0) (D_Model_relief 23 rfl) rfl rfl ?_
          refine j_iloadn (k := 1) (D_Model_relief 24 rfl) rfl rfl ?_
          refine j_iloadn (k := 2) (D_Model_relief 25 rfl) rfl rfl ?_
          refine j_iloadn (k := 3) (D_Model_relief 26 rfl) rfl rfl ?_
          obtain ⟨q5, e5, h⟩ := Option.bind_eq_some_iff.mp h
          refine j_cVv (c_Model_gathers (ha1) (ha2) (ha3) e5) rfl lk_Model_499 mok_Model_gathers kd_81 lc_81 rfl (by decide) rfl rfl (Nat.le_of_ble_eq_true rfl) (D_Model_relief 27 rfl) ?_
          refine j_aloadn (k := 0) (D_Model_relief 28 rfl) rfl rfl ?_
          refine j_aloadn (k := 0) (D_Model_relief 29 rfl) rfl rfl ?_
          refine j_getR rfl fa_Model_25 kd_81 lc_81 (by decide) rfl fx_81_7 (by decide) (D_Model_relief 30 rfl) ?_
          refine j_iloadn (k := 1) (D_Model_relief 31 rfl) rfl rfl ?_
          have g1 := gd_c h
          replace h := gd_s h
          refine j_iald (NI := 32) (D_Model_relief 32 rfl) kd_87 lc_87 (ha1) rfl g1.1 g1.2 ?_
          obtain ⟨q6, e6, h⟩ := Option.bind_eq_some_iff.mp h
          refine j_cVi (c_Model_reignOn (wr_gi _ _ _) e6) rfl lk_Model_417 mok_Model_reignOn kd_81 lc_81 rfl (by decide) rfl rfl (Nat.le_of_ble_eq_true rfl) (D_Model_relief 33 rfl) (fun w5 => ?_)
          refine j_istore (L' := [(4, vi q6), (0, rf X 81), (1, vi a1), (2, vi a2), (3, vi a3)]) (D_Model_relief 34 rfl) (w5) (by decide) rfl ?_
          refine j_iconst (v := 0) (D_Model_relief 35 rfl) rfl ?_
          refine j_istore (L' := [(5, vi 0), (4, vi q6), (0, rf X 81), (1, vi a1), (2, vi a2), (3, vi a3)]) (D_Model_relief 36 rfl) (wr_lit rfl) (by decide) rfl ?_
          refine j_iconst (v := 0) (D_Model_relief 37 rfl) rfl ?_
          refine j_istore (L' := [(6, vi 0), (5, vi 0), (4, vi q6), (0, rf X 81), (1, vi a1), (2, vi a2), (3, vi a3)]) (D_Model_relief 38 rfl) (wr_lit rfl) (by decide) rfl ?_
          refine j_loc [3, 2, 1, 0] rfl ?_
          exact s_Model_relief_L64 FU (w5) (wr_lit rfl) (wr_lit rfl) h
        · replace h := ite_f h c4
          refine j_iconst (v := (-1)) (D_Model_relief 21 rfl) rfl ?_
          exact j_iret (D_Model_relief 22 rfl) rfl (wr_lit rfl) rfl rfl (leafI h (wr_n (wr_lit rfl)))
abbrev M_Lands_spreadOfSet : MI := (⟨"InquestHall$Lands", "spreadOfSet", "(II)I"⟩, prog_4_method_8_code, 7, (some .int))
theorem cw_Lands_spreadOfSet : Cond.code M_Lands_spreadOfSet.1 M_Lands_spreadOfSet.2.1 M_Lands_spreadOfSet.2.2.1 M_Lands_spreadOfSet.2.2.2 ∈ TS := mTS (List.mem_of_getElem? (i := 1108) (by decide +kernel)) (by decide +kernel)
theorem lk_Lands_39 : Cond.methodLink "InquestHall$Lands" 39 Lib.Math.min.name ∈ TS := mTS (List.mem_of_getElem? (i := 1109) (by decide +kernel)) (by decide +kernel)
theorem lk_Lands_44 : Cond.methodLink "InquestHall$Lands" 44 Lib.Math.max.name ∈ TS := mTS (List.mem_of_getElem? (i := 1112) (by decide +kernel)) (by decide +kernel)
def tb_Lands_spreadOfSet : List (Nat × Instr × Nat) := [(0, .iconst (-1), 1), (1, .istore_n 3, 1), (2, .iconst (-1), 1), (3, .istore 4, 2), (5, .iconst 0, 1), (6, .istore 5, 2), (8, .iload 5, 2), (10, .bipush 6, 2), (12, .if_icmp .ge 78, 3), (15, .iload_n 1, 1), (16, .bipush 6, 2), (18, .imul, 1), (19, .iload 5, 2), (21, .iadd, 1), (22, .istore 6, 2), (24, .iload_n 2, 1), (25, .iconst 1, 1), (26, .iload 5, 2), (28, .ishl, 1), (29, .iand, 1), (30, .ifCond .eq 54, 3), (33, .aload_n 0, 1), (34, .getfield 21, 3), (37, .iload 6, 2), (39, .iaload, 1), (40, .ifCond .le 44, 3), (43, .iload_n 3, 1), (44, .iconst (-1), 1), (45, .if_icmp .ne 13, 3), (48, .aload_n 0, 1), (49, .getfield 24, 3), (52, .iload 6, 2), (54, .iaload, 1), (55, .goto 14, 3), (58, .iload_n 3, 1), (59, .aload_n 0, 1), (60, .getfield 24, 3), (63, .iload 6, 2), (65, .iaload, 1), (66, .invokestatic 39, 3), (69, .istore_n 3, 1), (70, .iload 4, 2), (72, .aload_n 0, 1), (73, .getfield 24, 3), (76, .iload 6, 2), (78, .iaload, 1), (79, .invokestatic 44, 3), (82, .istore 4, 2), (84, .iinc 5 1, 3), (87, .goto (-79), 3), (90, .iload 4, 2), (92, .iload_n 3, 1), (93, .isub, 1), (94, .ireturn, 1)]
theorem D_Lands_spreadOfSet (i : Nat) {pc len : Nat} {ins : Instr} (hi : tb_Lands_spreadOfSet[i]? = some (pc, ins, len)) : decode M_Lands_spreadOfSet.2.1 pc = .ok (ins, len) := dec_of (by decide +kernel) i hi
def f_Lands_spreadOfSet_L84 (G : GS) (k8 : Int → Int → Int → Int → Int → Option (Int)) (x1 : Int) (x2 : Int) (x3 : Int) (x4 : Int) (x5 : Int) : Option (Int) :=
  k8 x1 x2 x3 x4 (wr (x5 + 1))
theorem s_Lands_spreadOfSet_L84 {X : XT} {G : GS} {r : Int} {k8 : Int → Int → Int → Int → Int → Option (Int)} (hk8 : ∀ {x1 : Int} {x2 : Int} {x3 : Int} {x4 : Int} {x5 : Int} , wr x1 = x1 → wr x2 = x2 → wr x3 = x3 → wr x4 = x4 → wr x5 = x5 → k8 x1 x2 x3 x4 x5 = some r → J X true 9 0 0 M_Lands_spreadOfSet (Ri r G) NC 0 0 8 [(0, rf X 9), (1, vi x1), (2, vi x2), (3, vi x3), (4, vi x4), (5, vi x5)] [] G) : ∀ {x1 : Int} {x2 : Int} {x3 : Int} {x4 : Int} {x5 : Int}, wr x1 = x1 → wr x2 = x2 → wr x3 = x3 → wr x4 = x4 → wr x5 = x5 → f_Lands_spreadOfSet_L84 G k8 x1 x2 x3 x4 x5 = some r → J X true 9 0 0 M_Lands_spreadOfSet (Ri r G) NC 0 0 84 [(0, rf X 9), (1, vi x1), (2, vi x2), (3, vi x3), (4, vi x4), (5, vi x5)] [] G := by
  intro x1 x2 x3 x4 x5 hx1 hx2 hx3 hx4 hx5 h
  unfold f_Lands_spreadOfSet_L84 at h
  refine j_iinc (k := 5) (L' := [(5, vi (wr (x5 + 1))), (0, rf X 9), (1, vi x1), (2, vi x2), (3, vi x3), (4, vi x4)]) (D_Lands_spreadOfSet 48 rfl) rfl rfl (by decide) rfl ?_
  refine j_goto (tgt := 8) (D_Lands_spreadOfSet 49 rfl) rfl ?_
  refine j_loc [1, 2, 3, 4, 5, 0] rfl ?_
  exact hk8 (hx1) (hx2) (hx3) (hx4) (wr_wr _) h
def f_Lands_spreadOfSet_L69 (G : GS) (k8 : Int → Int → Int → Int → Int → Option (Int)) (x1 : Int) (x2 : Int) (x4 : Int) (x5 : Int) (x6 : Int) (s0 : Int) : Option (Int) :=
  gd (0 ≤ x6 ∧ x6 < 72) <|
  f_Lands_spreadOfSet_L84 G k8 x1 x2 s0 (max x4 (gi G 14 x6.toNat)) x5
theorem s_Lands_spreadOfSet_L69 {X : XT} {G : GS} {r : Int} {k8 : Int → Int → Int → Int → Int → Option (Int)} (hk8 : ∀ {x1 : Int} {x2 : Int} {x3 : Int} {x4 : Int} {x5 : Int} , wr x1 = x1 → wr x2 = x2 → wr x3 = x3 → wr x4 = x4 → wr x5 = x5 → k8 x1 x2 x3 x4 x5 = some r → J X true 9 0 0 M_Lands_spreadOfSet (Ri r G) NC 0 0 8 [(0, rf X 9), (1, vi x1), (2, vi x2), (3, vi x3), (4, vi x4), (5, vi x5)] [] G) : ∀ {x1 : Int} {x2 : Int} {x4 : Int} {x5 : Int} {x6 : Int} {s0 : Int}, wr x1 = x1 → wr x2 = x2 → wr x4 = x4 → wr x5 = x5 → wr x6 = x6 → wr s0 = s0 → f_Lands_spreadOfSet_L69 G k8 x1 x2 x4 x5 x6 s0 = some r → J X true 9 0 0 M_Lands_spreadOfSet (Ri r G) NC 0 0 69 [(0, rf X 9), (1, vi x1), (2, vi x2), (4, vi x4), (5, vi x5), (6, vi x6)] [vi s0] G := by
  intro x1 x2 x4 x5 x6 s0 hx1 hx2 hx4 hx5 hx6 hs0 h
  unfold f_Lands_spreadOfSet_L69 at h
  refine j_istoren (L' := [(3, vi s0), (0, rf X 9), (1, vi x1), (2, vi x2), (4, vi x4), (5, vi x5), (6, vi x6)]) (D_Lands_spreadOfSet 40 rfl) rfl (hs0) (by decide) rfl ?_
  refine j_iload (k := 4) (D_Lands_spreadOfSet 41 rfl) rfl ?_
  refine j_aloadn (k := 1) (D_Lands_spreadOfSet 42 rfl) rfl rfl ?_
  refine j_getR rfl fa_Lands_24 kd_9 lc_9 (by decide) rfl fx_9_4 (by decide) (D_Lands_spreadOfSet 43 rfl) ?_
  refine j_iload (k := 6) (D_Lands_spreadOfSet 44 rfl) rfl ?_
  have g1 := gd_c h
  replace h := gd_s h
  refine j_iald (NI := 72) (D_Lands_spreadOfSet 45 rfl) kd_14 lc_14 (hx6) rfl g1.1 g1.2 ?_
  refine j_mmax (hx4) (wr_gi _ _ _) rfl lk_Lands_44 (by decide) (Nat.le_of_ble_eq_true rfl) (D_Lands_spreadOfSet 46 rfl) ?_
  refine j_istore (L' := [(4, vi (max x4 (gi G 14 x6.toNat))), (3, vi s0), (0, rf X 9), (1, vi x1), (2, vi x2), (5, vi x5), (6, vi x6)]) (D_Lands_spreadOfSet 47 rfl) (wr_max (wr_n (hx4)) (wr_n (wr_gi _ _ _))) (by decide) rfl ?_
  refine j_loc [2, 3, 4, 1, 0, 5] rfl ?_
  exact s_Lands_spreadOfSet_L84 hk8 (hx1) (hx2) (hs0) (wr_max (wr_n (hx4)) (wr_n (wr_gi _ _ _))) (hx5) h
def f_Lands_spreadOfSet_L8 (G : GS) : Nat → Int → Int → Int → Int → Int → Option (Int)
  | 0, _, _, _, _, _ => none
  | n + 1, x1, x2, x3, x4, x5 =>
    if 6 ≤ x5 then
      some (wr (x4 - x3))
    else
      if bAnd x2 (bShl 1 x5) = 0 then
        f_Lands_spreadOfSet_L84 G (f_Lands_spreadOfSet_L8 G n) x1 x2 x3 x4 x5
      else
        gd (0 ≤ wr ((x1 * 6) + x5) ∧ wr ((x1 * 6) + x5) < 72) <|
        if gi G 13 (wr ((x1 * 6) + x5)).toNat ≤ 0 then
          f_Lands_spreadOfSet_L84 G (f_Lands_spreadOfSet_L8 G n) x1 x2 x3 x4 x5
        else
          if x3 = (-1) then
            gd (0 ≤ wr ((x1 * 6) + x5) ∧ wr ((x1 * 6) + x5) < 72) <|
            f_Lands_spreadOfSet_L69 G (f_Lands_spreadOfSet_L8 G n) x1 x2 x4 x5 (wr ((x1 * 6) + x5)) (gi G 14 (wr ((x1 * 6) + x5)).toNat)
          else
            gd (0 ≤ wr ((x1 * 6) + x5) ∧ wr ((x1 * 6) + x5) < 72) <|
            f_Lands_spreadOfSet_L69 G (f_Lands_spreadOfSet_L8 G n) x1 x2 x4 x5 (wr ((x1 * 6) + x5)) (min x3 (gi G 14 (wr ((x1 * 6) + x5)).toNat))
theorem s_Lands_spreadOfSet_L8 {X : XT} {G : GS} {r : Int} : ∀ (n : Nat) {x1 : Int} {x2 : Int} {x3 : Int} {x4 : Int} {x5 : Int}, wr x1 = x1 → wr x2 = x2 → wr x3 = x3 → wr x4 = x4 → wr x5 = x5 → f_Lands_spreadOfSet_L8 G n x1 x2 x3 x4 x5 = some r → J X true 9 0 0 M_Lands_spreadOfSet (Ri r G) NC 0 0 8 [(0, rf X 9), (1, vi x1), (2, vi x2), (3, vi x3), (4, vi x4), (5, vi x5)] [] G := by
  intro n
  induction n with
  | zero =>
    intro x1 x2 x3 x4 x5 hx1 hx2 hx3 hx4 hx5 h
    exact none_some h
  | succ n ih =>
    intro x1 x2 x3 x4 x5 hx1 hx2 hx3 hx4 hx5 h
    rw [f_Lands_spreadOfSet_L8] at h
    refine j_iload (k := 5) (D_Lands_spreadOfSet 6 rfl) rfl ?_
    refine j_bipush (v := 6) (D_Lands_spreadOfSet 7 rfl) rfl ?_
    refine j_ic_ge (tgt := 90) (D_Lands_spreadOfSet 8 rfl) rfl (hx5) (wr_lit rfl) (fun c1 => ?_) (fun c1 => ?_)
    · replace h := ite_t h c1
      refine j_iload (k := 4) (D_Lands_spreadOfSet 50 rfl) rfl ?_
      refine j_iloadn (k := 3) (D_Lands_spreadOfSet 51 rfl) rfl rfl ?_
      refine j_isub (D_Lands_spreadOfSet 52 rfl) ?_
      exact j_iret (D_Lands_spreadOfSet 53 rfl) rfl (rfl) rfl rfl (leafIo h (wr_n (rfl)))
    · replace h := ite_f h c1
      refine j_iloadn (k := 1) (D_Lands_spreadOfSet 9 rfl) rfl rfl ?_
      refine j_bipush (v := 6) (D_Lands_spreadOfSet 10 rfl) rfl ?_
      refine j_imul (D_Lands_spreadOfSet 11 rfl) ?_
      refine j_iload (k := 5) (D_Lands_spreadOfSet 12 rfl) rfl ?_
      refine j_iadd (D_Lands_spreadOfSet 13 rfl) ?_
      refine j_istore (L' := [(6, vi (wr ((x1 * 6) + x5))), (0, rf X 9), (1, vi x1), (2, vi x2), (3, vi x3), (4, vi x4), (5, vi x5)]) (D_Lands_spreadOfSet 14 rfl) (rfl) (by decide) rfl ?_
      refine j_iloadn (k := 3) (D_Lands_spreadOfSet 15 rfl) rfl rfl ?_
      refine j_iconst (v := 1) (D_Lands_spreadOfSet 16 rfl) rfl ?_
      refine j_iload (k := 6) (D_Lands_spreadOfSet 17 rfl) rfl ?_
      refine j_ishl (D_Lands_spreadOfSet 18 rfl) ?_
      refine j_iand (D_Lands_spreadOfSet 19 rfl) ?_
      refine j_if_eq (tgt := 84) (D_Lands_spreadOfSet 20 rfl) rfl (wr_bAnd _ _) (fun c2 => ?_) (fun c2 => ?_)
      · replace h := ite_t h c2
        refine j_loc [1, 2, 3, 4, 5, 6] rfl ?_
        exact s_Lands_spreadOfSet_L84 ih (hx1) (hx2) (hx3) (hx4) (hx5) h
      · replace h := ite_f h c2
        refine j_aloadn (k := 1) (D_Lands_spreadOfSet 21 rfl) rfl rfl ?_
        refine j_getR rfl fa_Lands_21 kd_9 lc_9 (by decide) rfl fx_9_3 (by decide) (D_Lands_spreadOfSet 22 rfl) ?_
        refine j_iload (k := 0) (D_Lands_spreadOfSet 23 rfl) rfl ?_
        have g1 := gd_c h
        replace h := gd_s h
        refine j_iald (NI := 72) (D_Lands_spreadOfSet 24 rfl) kd_13 lc_13 (wr_wr _) rfl g1.1 g1.2 ?_
        refine j_if_le (tgt := 84) (D_Lands_spreadOfSet 25 rfl) rfl (wr_gi _ _ _) (fun c3 => ?_) (fun c3 => ?_)
        · replace h := ite_t h c3
          refine j_loc [1, 2, 3, 4, 5, 6] rfl ?_
          exact s_Lands_spreadOfSet_L84 ih (hx1) (hx2) (hx3) (hx4) (hx5) h
        · replace h := ite_f h c3
          refine j_iloadn (k := 4) (D_Lands_spreadOfSet 26 rfl) rfl rfl ?_
          refine j_iconst (v := (-1)) (D_Lands_spreadOfSet 27 rfl) rfl ?_
          refine j_ic_ne (tgt := 58) (D_Lands_spreadOfSet 28 rfl) rfl (hx3) (wr_lit rfl) (fun c4 => ?_) (fun c4 => ?_)
          · replace h := ite_f h c4
            refine j_iloadn (k := 4) (D_Lands_spreadOfSet 34 rfl) rfl rfl ?_
            refine j_aloadn (k := 1) (D_Lands_spreadOfSet 35 rfl) rfl rfl ?_
            refine j_getR rfl fa_Lands_24 kd_9 lc_9 (by decide) rfl fx_9_4 (by decide) (D_Lands_spreadOfSet 36 rfl) ?_
            refine j_iload (k := 0) (D_Lands_spreadOfSet 37 rfl) rfl ?_
            have g2 := gd_c h
            replace h := gd_s h
            refine j_iald (NI := 72) (D_Lands_spreadOfSet 38 rfl) kd_14 lc_14 (wr_wr _) rfl g2.1 g2.2 ?_
            refine j_mmin (hx3) (wr_gi _ _ _) rfl lk_Lands_39 (by decide) (Nat.le_of_ble_eq_true rfl) (D_Lands_spreadOfSet 39 rfl) ?_
            refine j_loc [1, 2, 3, 5, 6, 0] rfl ?_
            exact s_Lands_spreadOfSet_L69 ih (hx1) (hx2) (hx4) (hx5) (wr_wr _) (wr_min (wr_n (hx3)) (wr_n (wr_gi _ _ _))) h
          · replace h := ite_t h c4
            refine j_aloadn (k := 1) (D_Lands_spreadOfSet 29 rfl) rfl rfl ?_
            refine j_getR rfl fa_Lands_24 kd_9 lc_9 (by decide) rfl fx_9_4 (by decide) (D_Lands_spreadOfSet 30 rfl) ?_
            refine j_iload (k := 0) (D_Lands_spreadOfSet 31 rfl) rfl ?_
            have g3 := gd_c h
            replace h := gd_s h
            refine j_iald (NI := 72) (D_Lands_spreadOfSet 32 rfl) kd_14 lc_14 (wr_wr _) rfl g3.1 g3.2 ?_
            refine j_goto (tgt := 69) (D_Lands_spreadOfSet 33 rfl) rfl ?_
            refine j_loc [1, 2, 3, 5, 6, 0] rfl ?_
            exact s_Lands_spreadOfSet_L69 ih (hx1) (hx2) (hx4) (hx5) (wr_wr _) (wr_gi _ _ _) h
def f_Lands_spreadOfSet (G : GS) (a1 : Int) (a2 : Int) : Option (Int) :=
  f_Lands_spreadOfSet_L8 G FU a1 a2 (-1) (-1) 0
theorem c_Lands_spreadOfSet {X : XT} {G : GS} {a1 : Int} {a2 : Int} {r : Int} (ha1 : wr a1 = a1) (ha2 : wr a2 = a2) (h : f_Lands_spreadOfSet G a1 a2 = some r) : Call X true 9 0 0 M_Lands_spreadOfSet [rf X 9, vi a1, vi a2] NC G (Ri r G) := by
  refine Call_of_J cw_Lands_spreadOfSet (by decide +kernel) (Nat.le_of_ble_eq_true rfl) ?_
  unfold f_Lands_spreadOfSet at h
  show J X true 9 0 0 M_Lands_spreadOfSet (Ri r G) NC 0 0 0 [(0, rf X 9), (1, vi a1), (2, vi a2)] [] G
  refine j_iconst (v := (-1)) (D_Lands_spreadOfSet 0 rfl) rfl ?_
  refine j_istoren (L' := [(3, vi (-1)), (0, rf X 9), (1, vi a1), (2, vi a2)]) (D_Lands_spreadOfSet 1 rfl) rfl (wr_lit rfl) (by decide) rfl ?_
  refine j_iconst (v := (-1)) (D_Lands_spreadOfSet 2 rfl) rfl ?_
  refine j_istore (L' := [(4, vi (-1)), (3, vi (-1)), (0, rf X 9), (1, vi a1), (2, vi a2)]) (D_Lands_spreadOfSet 3 rfl) (wr_lit rfl) (by decide) rfl ?_
  refine j_iconst (v := 0) (D_Lands_spreadOfSet 4 rfl) rfl ?_
  refine j_istore (L' := [(5, vi 0), (4, vi (-1)), (3, vi (-1)), (0, rf X 9), (1, vi a1), (2, vi a2)]) (D_Lands_spreadOfSet 5 rfl) (wr_lit rfl) (by decide) rfl ?_
  refine j_loc [3, 4, 5, 2, 1, 0] rfl ?_
  exact s_Lands_spreadOfSet_L8 FU (ha1) (ha2) (wr_lit rfl) (wr_lit rfl) (wr_lit rfl) h
abbrev M_Lands_layDower : MI := (⟨"InquestHall$Lands", "layDower", "(II)V"⟩, prog_4_method_9_code, 6, none)
theorem cw_Lands_layDower : Cond.code M_Lands_layDower.1 M_Lands_layDower.2.1 M_Lands_layDower.2.2.1 M_Lands_layDower.2.2.2 ∈ TS := mTS (List.mem_of_getElem? (i := 1104) (by decide +kernel)) (by decide +kernel)
theorem fa_Lands_47 : FA "InquestHall$Lands" 47 2 6 false .int := ⟨_, _, _, _, ok_Lands, by decide, mTS (List.mem_of_getElem? (i := 212) (by decide +kernel)) (by decide +kernel), rfl, rfl⟩
theorem fa_Lands_50 : FA "InquestHall$Lands" 50 2 7 false .int := ⟨_, _, _, _, ok_Lands, by decide, mTS (List.mem_of_getElem? (i := 214) (by decide +kernel)) (by decide +kernel), rfl, rfl⟩
theorem lk_Lands_53 : Cond.methodLink "InquestHall$Lands" 53 M_Lands_spreadOfSet.1 ∈ TS := mTS (List.mem_of_getElem? (i := 1105) (by decide +kernel)) (by decide +kernel)
theorem mok_Lands_spreadOfSet : MOK M_Lands_spreadOfSet 2 := ⟨mTS (List.mem_of_getElem? (i := 1106) (by decide +kernel)) (by decide +kernel), mTS (List.mem_of_getElem? (i := 1107) (by decide +kernel)) (by decide +kernel), mTS (List.mem_of_getElem? (i := 124) (by decide +kernel)) (by decide +kernel), cw_Lands_spreadOfSet, ⟨by decide, by decide, by decide +kernel⟩, by decide +kernel, by decide⟩
theorem fa_Lands_56 : FA "InquestHall$Lands" 56 2 8 false .int := ⟨_, _, _, _, ok_Lands, by decide, mTS (List.mem_of_getElem? (i := 216) (by decide +kernel)) (by decide +kernel), rfl, rfl⟩
def tb_Lands_layDower : List (Nat × Instr × Nat) := [(0, .aload_n 0, 1), (1, .bipush 63, 2), (3, .putfield 47, 3), (6, .aload_n 0, 1), (7, .aload_n 0, 1), (8, .iload_n 1, 1), (9, .invokevirtual 31, 3), (12, .putfield 50, 3), (15, .aload_n 0, 1), (16, .aload_n 0, 1), (17, .iload_n 1, 1), (18, .aload_n 0, 1), (19, .getfield 47, 3), (22, .invokevirtual 53, 3), (25, .putfield 56, 3), (28, .aload_n 0, 1), (29, .getfield 47, 3), (32, .iconst 1, 1), (33, .isub, 1), (34, .istore_n 3, 1), (35, .iload_n 3, 1), (36, .ifCond .lt 75, 3), (39, .aload_n 0, 1), (40, .iload_n 1, 1), (41, .iload_n 3, 1), (42, .invokevirtual 35, 3), (45, .istore 4, 2), (47, .iload 4, 2), (49, .iload_n 2, 1), (50, .if_icmp .lt 55, 3), (53, .iload 4, 2), (55, .aload_n 0, 1), (56, .getfield 50, 3), (59, .if_icmp .gt 46, 3), (62, .aload_n 0, 1), (63, .iload_n 1, 1), (64, .iload_n 3, 1), (65, .invokevirtual 53, 3), (68, .istore 5, 2), (70, .iload 4, 2), (72, .aload_n 0, 1), (73, .getfield 50, 3), (76, .if_icmp .lt 12, 3), (79, .iload 5, 2), (81, .aload_n 0, 1), (82, .getfield 56, 3), (85, .if_icmp .gt 20, 3), (88, .aload_n 0, 1), (89, .iload_n 3, 1), (90, .putfield 47, 3), (93, .aload_n 0, 1), (94, .iload 4, 2), (96, .putfield 50, 3), (99, .aload_n 0, 1), (100, .iload 5, 2), (102, .putfield 56, 3), (105, .iinc 3 (-1), 3), (108, .goto (-73), 3), (111, .return_, 1)]
theorem D_Lands_layDower (i : Nat) {pc len : Nat} {ins : Instr} (hi : tb_Lands_layDower[i]? = some (pc, ins, len)) : decode M_Lands_layDower.2.1 pc = .ok (ins, len) := dec_of (by decide +kernel) i hi
def f_Lands_layDower_L105 (k35 : GS → Int → Int → Int → Option (GS)) (G : GS) (x1 : Int) (x2 : Int) (x3 : Int) : Option (GS) :=
  k35 G x1 x2 (wr (x3 + (-1)))
theorem s_Lands_layDower_L105 {X : XT} {r : GS} {k35 : GS → Int → Int → Int → Option (GS)} (hk35 : ∀ {G : GS} {x1 : Int} {x2 : Int} {x3 : Int} , wr x1 = x1 → wr x2 = x2 → wr x3 = x3 → k35 G x1 x2 x3 = some r → J X true 10 0 0 M_Lands_layDower (Rv r) NC 0 0 35 [(0, rf X 9), (1, vi x1), (2, vi x2), (3, vi x3)] [] G) : ∀ {G : GS} {x1 : Int} {x2 : Int} {x3 : Int}, wr x1 = x1 → wr x2 = x2 → wr x3 = x3 → f_Lands_layDower_L105 k35 G x1 x2 x3 = some r → J X true 10 0 0 M_Lands_layDower (Rv r) NC 0 0 105 [(0, rf X 9), (1, vi x1), (2, vi x2), (3, vi x3)] [] G := by
  intro G x1 x2 x3 hx1 hx2 hx3 h
  unfold f_Lands_layDower_L105 at h
  refine j_iinc (k := 3) (L' := [(3, vi (wr (x3 + (-1)))), (0, rf X 9), (1, vi x1), (2, vi x2)]) (D_Lands_layDower 56 rfl) rfl rfl (by decide) rfl ?_
  refine j_goto (tgt := 35) (D_Lands_layDower 57 rfl) rfl ?_
  refine j_loc [1, 2, 3, 0] rfl ?_
  exact hk35 (hx1) (hx2) (wr_wr _) h
def f_Lands_layDower_L88 (k35 : GS → Int → Int → Int → Option (GS)) (G : GS) (x1 : Int) (x2 : Int) (x3 : Int) (x4 : Int) (x5 : Int) : Option (GS) :=
  wG (si G 9 6 x3) fun G1 =>
  wG (si G1 9 7 x4) fun G2 =>
  wG (si G2 9 8 x5) fun G3 =>
  f_Lands_layDower_L105 k35 G3 x1 x2 x3
theorem s_Lands_layDower_L88 {X : XT} {r : GS} {k35 : GS → Int → Int → Int → Option (GS)} (hk35 : ∀ {G : GS} {x1 : Int} {x2 : Int} {x3 : Int} , wr x1 = x1 → wr x2 = x2 → wr x3 = x3 → k35 G x1 x2 x3 = some r → J X true 10 0 0 M_Lands_layDower (Rv r) NC 0 0 35 [(0, rf X 9), (1, vi x1), (2, vi x2), (3, vi x3)] [] G) : ∀ {G : GS} {x1 : Int} {x2 : Int} {x3 : Int} {x4 : Int} {x5 : Int}, wr x1 = x1 → wr x2 = x2 → wr x3 = x3 → wr x4 = x4 → wr x5 = x5 → f_Lands_layDower_L88 k35 G x1 x2 x3 x4 x5 = some r → J X true 10 0 0 M_Lands_layDower (Rv r) NC 0 0 88 [(0, rf X 9), (1, vi x1), (2, vi x2), (3, vi x3), (4, vi x4), (5, vi x5)] [] G := by
  intro G x1 x2 x3 x4 x5 hx1 hx2 hx3 hx4 hx5 h
  unfold f_Lands_layDower_L88 at h
  refine j_aloadn (k := 0) (D_Lands_layDower 47 rfl) rfl rfl ?_
  refine j_iloadn (k := 3) (D_Lands_layDower 48 rfl) rfl rfl ?_
  refine j_putI rfl fa_Lands_47 kd_9 lc_9 (by decide) rfl (D_Lands_layDower 49 rfl) ?_
  refine j_gen (fun G1 e1 => ?_)
  replace h := wG_at h e1
  refine j_aloadn (k := 0) (D_Lands_layDower 50 rfl) rfl rfl ?_
  refine j_iload (k := 4) (D_Lands_layDower 51 rfl) rfl ?_
  refine j_putI rfl fa_Lands_50 kd_9 lc_9 (by decide) rfl (D_Lands_layDower 52 rfl) ?_
  refine j_gen (fun G2 e2 => ?_)
  replace h := wG_at h e2
  refine j_aloadn (k := 0) (D_Lands_layDower 53 rfl) rfl rfl ?_
  refine j_iload (k := 5) (D_Lands_layDower 54 rfl) rfl ?_
  refine j_putI rfl fa_Lands_56 kd_9 lc_9 (by decide) rfl (D_Lands_layDower 55 rfl) ?_
  refine j_gen (fun G3 e3 => ?_)
  replace h := wG_at h e3
  refine j_loc [0, 1, 2, 3] rfl ?_
  exact s_Lands_layDower_L105 hk35 (hx1) (hx2) (hx3) h
def f_Lands_layDower_L35 : Nat → GS → Int → Int → Int → Option (GS)
  | 0, _, _, _, _ => none
  | n + 1, G, x1, x2, x3 =>
    if x3 < 0 then
      some G
    else
      (f_Lands_worthOfSet G x1 x3).bind fun q1 =>
      if q1 < x2 then
        f_Lands_layDower_L105 (f_Lands_layDower_L35 n) G x1 x2 x3
      else
        if gi G 9 7 < q1 then
          f_Lands_layDower_L105 (f_Lands_layDower_L35 n) G x1 x2 x3
        else
          (f_Lands_spreadOfSet G x1 x3).bind fun q2 =>
          if q1 < gi G 9 7 then
            f_Lands_layDower_L88 (f_Lands_layDower_L35 n) G x1 x2 x3 q1 q2
          else
            if gi G 9 8 < q2 then
              f_Lands_layDower_L105 (f_Lands_layDower_L35 n) G x1 x2 x3
            else
              f_Lands_layDower_L88 (f_Lands_layDower_L35 n) G x1 x2 x3 q1 q2
theorem s_Lands_layDower_L35 {X : XT} {r : GS} : ∀ (n : Nat) {G : GS} {x1 : Int} {x2 : Int} {x3 : Int}, wr x1 = x1 → wr x2 = x2 → wr x3 = x3 → f_Lands_layDower_L35 n G x1 x2 x3 = some r → J X true 10 0 0 M_Lands_layDower (Rv r) NC 0 0 35 [(0, rf X 9), (1, vi x1), (2, vi x2), (3, vi x3)] [] G := by
  intro n
  induction n with
  | zero =>
    intro G x1 x2 x3 hx1 hx2 hx3 h
    exact none_some h
  | succ n ih =>
    intro G x1 x2 x3 hx1 hx2 hx3 h
    rw [f_Lands_layDower_L35] at h
    refine j_iloadn (k := 3) (D_Lands_layDower 20 rfl) rfl rfl ?_
    refine j_if_lt (tgt := 111) (D_Lands_layDower 21 rfl) rfl (hx3) (fun c1 => ?_) (fun c1 => ?_)
    · replace h := ite_t h c1
      exact j_vret (D_Lands_layDower 58 rfl) rfl rfl rfl (leafV h)
    · replace h := ite_f h c1
      refine j_aloadn (k := 0) (D_Lands_layDower 22 rfl) rfl rfl ?_
      refine j_iloadn (k := 1) (D_Lands_layDower 23 rfl) rfl rfl ?_
      refine j_iloadn (k := 3) (D_Lands_layDower 24 rfl) rfl rfl ?_
      obtain ⟨q1, e1, h⟩ := Option.bind_eq_some_iff.mp h
      refine j_cVi (c_Lands_worthOfSet (hx1) (hx3) e1) rfl lk_Lands_35 mok_Lands_worthOfSet kd_9 lc_9 rfl (by decide) rfl rfl (Nat.le_of_ble_eq_true rfl) (D_Lands_layDower 25 rfl) (fun w1 => ?_)
      refine j_istore (L' := [(4, vi q1), (0, rf X 9), (1, vi x1), (2, vi x2), (3, vi x3)]) (D_Lands_layDower 26 rfl) (w1) (by decide) rfl ?_
      refine j_iload (k := 0) (D_Lands_layDower 27 rfl) rfl ?_
      refine j_iloadn (k := 3) (D_Lands_layDower 28 rfl) rfl rfl ?_
      refine j_ic_lt (tgt := 105) (D_Lands_layDower 29 rfl) rfl (w1) (hx2) (fun c2 => ?_) (fun c2 => ?_)
      · replace h := ite_t h c2
        refine j_loc [1, 2, 3, 4] rfl ?_
        exact s_Lands_layDower_L105 ih (hx1) (hx2) (hx3) h
      · replace h := ite_f h c2
        refine j_iload (k := 0) (D_Lands_layDower 30 rfl) rfl ?_
        refine j_aloadn (k := 1) (D_Lands_layDower 31 rfl) rfl rfl ?_
        refine j_getI rfl fa_Lands_50 kd_9 lc_9 (by decide) rfl (D_Lands_layDower 32 rfl) ?_
        refine j_ic_gt (tgt := 105) (D_Lands_layDower 33 rfl) rfl (w1) (wr_gi _ _ _) (fun c3 => ?_) (fun c3 => ?_)
        · replace h := ite_t h c3
          refine j_loc [1, 2, 3, 4] rfl ?_
          exact s_Lands_layDower_L105 ih (hx1) (hx2) (hx3) h
        · replace h := ite_f h c3
          refine j_aloadn (k := 1) (D_Lands_layDower 34 rfl) rfl rfl ?_
          refine j_iloadn (k := 2) (D_Lands_layDower 35 rfl) rfl rfl ?_
          refine j_iloadn (k := 4) (D_Lands_layDower 36 rfl) rfl rfl ?_
          obtain ⟨q2, e2, h⟩ := Option.bind_eq_some_iff.mp h
          refine j_cVi (c_Lands_spreadOfSet (hx1) (hx3) e2) rfl lk_Lands_53 mok_Lands_spreadOfSet kd_9 lc_9 rfl (by decide) rfl rfl (Nat.le_of_ble_eq_true rfl) (D_Lands_layDower 37 rfl) (fun w2 => ?_)
          refine j_istore (L' := [(5, vi q2), (4, vi q1), (0, rf X 9), (1, vi x1), (2, vi x2), (3, vi x3)]) (D_Lands_layDower 38 rfl) (w2) (by decide) rfl ?_
          refine j_iload (k := 1) (D_Lands_layDower 39 rfl) rfl ?_
          refine j_aloadn (k := 2) (D_Lands_layDower 40 rfl) rfl rfl ?_
          refine j_getI rfl fa_Lands_50 kd_9 lc_9 (by decide) rfl (D_Lands_layDower 41 rfl) ?_
          refine j_ic_lt (tgt := 88) (D_Lands_layDower 42 rfl) rfl (w1) (wr_gi _ _ _) (fun c4 => ?_) (fun c4 => ?_)
          · replace h := ite_t h c4
            refine j_loc [2, 3, 4, 5, 1, 0] rfl ?_
            exact s_Lands_layDower_L88 ih (hx1) (hx2) (hx3) (w1) (w2) h
          · replace h := ite_f h c4
            refine j_iload (k := 0) (D_Lands_layDower 43 rfl) rfl ?_
            refine j_aloadn (k := 2) (D_Lands_layDower 44 rfl) rfl rfl ?_
            refine j_getI rfl fa_Lands_56 kd_9 lc_9 (by decide) rfl (D_Lands_layDower 45 rfl) ?_
            refine j_ic_gt (tgt := 105) (D_Lands_layDower 46 rfl) rfl (w2) (wr_gi _ _ _) (fun c5 => ?_) (fun c5 => ?_)
            · replace h := ite_t h c5
              refine j_loc [2, 3, 4, 5] rfl ?_
              exact s_Lands_layDower_L105 ih (hx1) (hx2) (hx3) h
            · replace h := ite_f h c5
              refine j_loc [2, 3, 4, 5, 1, 0] rfl ?_
              exact s_Lands_layDower_L88 ih (hx1) (hx2) (hx3) (w1) (w2) h
def f_Lands_layDower (G : GS) (a1 : Int) (a2 : Int) : Option (GS) :=
  wG (si G 9 6 63) fun G1 =>
  (f_Lands_worthOf G1 a1).bind fun q1 =>
  wG (si G1 9 7 q1) fun G2 =>
  (f_Lands_spreadOfSet G2 a1 (gi G2 9 6)).bind fun q2 =>
  wG (si G2 9 8 q2) fun G3 =>
  f_Lands_layDower_L35 FU G3 a1 a2 (wr ((gi G3 9 6) - 1))
theorem c_Lands_layDower {X : XT} {G : GS} {a1 : Int} {a2 : Int} {r : GS} (ha1 : wr a1 = a1) (ha2 : wr a2 = a2) (h : f_Lands_layDower G a1 a2 = some r) : Call X true 10 0 0 M_Lands_layDower [rf X 9, vi a1, vi a2] NC G (Rv r) := by
  refine Call_of_J cw_Lands_layDower (by decide +kernel) (Nat.le_of_ble_eq_true rfl) ?_
  unfold f_Lands_layDower at h
  show J X true 10 0 0 M_Lands_layDower (Rv r) NC 0 0 0 [(0, rf X 9), (1, vi a1), (2, vi a2)] [] G
  refine j_aloadn (k := 0) (D_Lands_layDower 0 rfl) rfl rfl ?_
  refine j_bipush (v := 63) (D_Lands_layDower 1 rfl) rfl ?_
  refine j_putI rfl fa_Lands_47 kd_9 lc_9 (by decide) rfl (D_Lands_layDower 2 rfl) ?_
  refine j_gen (fun G1 e1 => ?_)
  replace h := wG_at h e1
  refine j_aloadn (k := 0) (D_Lands_layDower 3 rfl) rfl rfl ?_
  refine j_aloadn (k := 0) (D_Lands_layDower 4 rfl) rfl rfl ?_
  refine j_iloadn (k := 1) (D_Lands_layDower 5 rfl) rfl rfl ?_
  obtain ⟨q1, e2, h⟩ := Option.bind_eq_some_iff.mp h
  refine j_cVi (c_Lands_worthOf (ha1) e2) rfl lk_Lands_31 mok_Lands_worthOf kd_9 lc_9 rfl (by decide) rfl rfl (Nat.le_of_ble_eq_true rfl) (D_Lands_layDower 6 rfl) (fun w1 => ?_)
  refine j_putI rfl fa_Lands_50 kd_9 lc_9 (by decide) rfl (D_Lands_layDower 7 rfl) ?_
  refine j_gen (fun G2 e3 => ?_)
  replace h := wG_at h e3
  refine j_aloadn (k := 0) (D_Lands_layDower 8 rfl) rfl rfl ?_
  refine j_aloadn (k := 0) (D_Lands_layDower 9 rfl) rfl rfl ?_
  refine j_iloadn (k := 1) (D_Lands_layDower 10 rfl) rfl rfl ?_
  refine j_aloadn (k := 0) (D_Lands_layDower 11 rfl) rfl rfl ?_
  refine j_getI rfl fa_Lands_47 kd_9 lc_9 (by decide) rfl (D_Lands_layDower 12 rfl) ?_
  obtain ⟨q2, e4, h⟩ := Option.bind_eq_some_iff.mp h
  refine j_cVi (c_Lands_spreadOfSet (ha1) (wr_gi _ _ _) e4) rfl lk_Lands_53 mok_Lands_spreadOfSet kd_9 lc_9 rfl (by decide) rfl rfl (Nat.le_of_ble_eq_true rfl) (D_Lands_layDower 13 rfl) (fun w2 => ?_)
  refine j_putI rfl fa_Lands_56 kd_9 lc_9 (by decide) rfl (D_Lands_layDower 14 rfl) ?_
  refine j_gen (fun G3 e5 => ?_)
  replace h := wG_at h e5
  refine j_aloadn (k := 0) (D_Lands_layDower 15 rfl) rfl rfl ?_
  refine j_getI rfl fa_Lands_47 kd_9 lc_9 (by decide) rfl (D_Lands_layDower 16 rfl) ?_
  refine j_iconst (v := 1) (D_Lands_layDower 17 rfl) rfl ?_
  refine j_isub (D_Lands_layDower 18 rfl) ?_
  refine j_istoren (L' := [(3, vi (wr ((gi G3 9 6) - 1))), (0, rf X 9), (1, vi a1), (2, vi a2)]) (D_Lands_layDower 19 rfl) rfl (rfl) (by decide) rfl ?_
  refine j_loc [1, 2, 3, 0] rfl ?_
  exact s_Lands_layDower_L35 FU (ha1) (ha2) (wr_wr _) h
abbrev M_Hall_dower : MI := (⟨"InquestHall", "dower", "(III)I"⟩, prog_1_method_21_code, 8, (some .int))
theorem cw_Hall_dower : Cond.code M_Hall_dower.1 M_Hall_dower.2.1 M_Hall_dower.2.2.1 M_Hall_dower.2.2.2 ∈ TS := mTS (List.mem_of_getElem? (i := 1100) (by decide +kernel)) (by decide +kernel)
theorem fa_Hall_257 : FA "InquestHall" 257 11 5 false .int := ⟨_, _, _, _, ok_Law, by decide, mTS (List.mem_of_getElem? (i := 560) (by decide +kernel)) (by decide +kernel), rfl, rfl⟩
theorem fa_Hall_263 : FA "InquestHall" 263 11 4 false .int := ⟨_, _, _, _, ok_Law, by decide, mTS (List.mem_of_getElem? (i := 557) (by decide +kernel)) (by decide +kernel), rfl, rfl⟩
theorem lk_Hall_266 : Cond.methodLink "InquestHall" 266 M_Lands_layDower.1 ∈ TS := mTS (List.mem_of_getElem? (i := 1101) (by decide +kernel)) (by decide +kernel)
theorem mok_Lands_layDower : MOK M_Lands_layDower 2 := ⟨mTS (List.mem_of_getElem? (i := 1102) (by decide +kernel)) (by decide +kernel), mTS (List.mem_of_getElem? (i := 1103) (by decide +kernel)) (by decide +kernel), mTS (List.mem_of_getElem? (i := 124) (by decide +kernel)) (by decide +kernel), cw_Lands_layDower, ⟨by decide, by decide, by decide +kernel⟩, by decide +kernel, by decide⟩
theorem fa_Hall_269 : FA "InquestHall" 269 2 6 false .int := ⟨_, _, _, _, ok_Lands, by decide, mTS (List.mem_of_getElem? (i := 213) (by decide +kernel)) (by decide +kernel), rfl, rfl⟩
theorem fa_Hall_272 : FA "InquestHall" 272 2 7 false .int := ⟨_, _, _, _, ok_Lands, by decide, mTS (List.mem_of_getElem? (i := 215) (by decide +kernel)) (by decide +kernel), rfl, rfl⟩
theorem fa_Hall_275 : FA "InquestHall" 275 2 8 false .int := ⟨_, _, _, _, ok_Lands, by decide, mTS (List.mem_of_getElem? (i := 217) (by decide +kernel)) (by decide +kernel), rfl, rfl⟩
def tb_Hall_dower : List (Nat × Instr × Nat) := [(0, .iload_n 3, 1), (1, .ifCond .lt 41, 3), (4, .iload_n 3, 1), (5, .iconst 3, 1), (6, .if_icmp .gt 36, 3), (9, .aload_n 0, 1), (10, .getfield 19, 3), (13, .iload_n 2, 1), (14, .invokevirtual 150, 3), (17, .ifCond .eq 25, 3), (20, .aload_n 0, 1), (21, .getfield 12, 3), (24, .iload_n 1, 1), (25, .invokevirtual 107, 3), (28, .ifCond .eq 14, 3), (31, .aload_n 0, 1), (32, .getfield 12, 3), (35, .iload_n 1, 1), (36, .invokevirtual 125, 3), (39, .ifCond .ne 5, 3), (42, .iconst (-1), 1), (43, .ireturn, 1), (44, .aload_n 0, 1), (45, .getfield 12, 3), (48, .getfield 131, 3), (51, .iload_n 1, 1), (52, .iaload, 1), (53, .istore 4, 2), (55, .aload_n 0, 1), (56, .getfield 12, 3), (59, .aload_n 0, 1), (60, .getfield 12, 3), (63, .getfield 134, 3), (66, .iload_n 1, 1), (67, .iaload, 1), (68, .iload 4, 2), (70, .invokevirtual 254, 3), (73, .ifCond .ne 5, 3), (76, .iconst (-1), 1), (77, .ireturn, 1), (78, .aload_n 0, 1), (79, .iload 4, 2), (81, .invokevirtual 185, 3), (84, .astore 5, 2), (86, .iconst 1, 1), (87, .aload 5, 2), (89, .getfield 257, 3), (92, .invokestatic 249, 3), (95, .istore 6, 2), (97, .aload_n 0, 1), (98, .getfield 19, 3), (101, .iload_n 2, 1), (102, .invokevirtual 260, 3), (105, .aload 5, 2), (107, .getfield 263, 3), (110, .imul, 1), (111, .iload 6, 2), (113, .iadd, 1), (114, .iconst 1, 1), (115, .isub, 1), (116, .iload 6, 2), (118, .idiv, 1), (119, .istore 7, 2), (121, .aload_n 0, 1), (122, .getfield 19, 3), (125, .iload_n 2, 1), (126, .iload 7, 2), (128, .invokevirtual 266, 3), (131, .iload_n 3, 1), (132, .tableswitch 47 0 2 #[28, 31, 39], 28), (160, .iload 7, 2), (162, .ireturn, 1), (163, .aload_n 0, 1), (164, .getfield 19, 3), (167, .getfield 269, 3), (170, .ireturn, 1), (171, .aload_n 0, 1), (172, .getfield 19, 3), (175, .getfield 272, 3), (178, .ireturn, 1), (179, .aload_n 0, 1), (180, .getfield 19, 3), (183, .getfield 275, 3), (186, .ireturn, 1)]
theorem D_Hall_dower (i : Nat) {pc len : Nat} {ins : Instr} (hi : tb_Hall_dower[i]? = some (pc, ins, len)) : decode M_Hall_dower.2.1 pc = .ok (ins, len) := dec_of (by decide +kernel) i hi
def f_Hall_dower (G : GS) (a1 : Int) (a2 : Int) (a3 : Int) : Option (Int × GS) :=
  if a3 < 0 then
    some ((-1), G)
  else
    if 3 < a3 then
      some ((-1), G)
    else
      (f_Lands_has G a2).bind fun q1 =>
      if q1 = 0 then
        some ((-1), G)
      else
        (f_People_isMan G a1).bind fun q2 =>
        if q2 = 0 then
          some ((-1), G)
        else
          (f_People_isDead G a1).bind fun q3 =>
          if q3 = 0 then
            some ((-1), G)
          else
            gd (0 ≤ a1 ∧ a1 < 32) <|
            gd (0 ≤ a1 ∧ a1 < 32) <|
            (f_People_isAlive G (gi G 8 a1.toNat) (gi G 7 a1.toNat)).bind fun q4 =>
            if q4 = 0 then
              some ((-1), G)
            else
              (f_Hall_lawAt G (gi G 7 a1.toNat)).bind fun q5 =>
              (f_Lands_worthOf G a2).bind fun q6 =>
              gd (¬ max 1 (gi G q5 5) = 0) <|
              (f_Lands_layDower G a2 (dv (((q6 * (gi G q5 4)) + (max 1 (gi G q5 5))) - 1) (max 1 (gi G q5 5)))).bind fun q7 =>
              if a3 = 0 then
                some (dv (((q6 * (gi G q5 4)) + (max 1 (gi G q5 5))) - 1) (max 1 (gi G q5 5)), q7)
              else
                if a3 = 1 then
                  some (gi q7 9 6, q7)
                else
                  if a3 = 2 then
                    some (gi q7 9 7, q7)
                  else
                    some (gi q7 9 8, q7)
theorem c_Hall_dower {X : XT} {G : GS} {a1 : Int} {a2 : Int} {a3 : Int} {r : Int × GS} (ha1 : wr a1 = a1) (ha2 : wr a2 = a2) (ha3 : wr a3 = a3) (h : f_Hall_dower G a1 a2 a3 = some r) : Call X true 11 0 0 M_Hall_dower [rf X 0, vi a1, vi a2, vi a3] NC G (Ri r.1 r.2) := by
  refine Call_of_J cw_Hall_dower (by decide +kernel) (Nat.le_of_ble_eq_true rfl) ?_
  unfold f_Hall_dower at h
  show J X true 11 0 0 M_Hall_dower (Ri r.1 r.2) NC 0 0 0 [(0, rf X 0), (1, vi a1), (2, vi a2), (3, vi a3)] [] G
  refine j_iloadn (k := 3) (D_Hall_dower 0 rfl) rfl rfl ?_
  refine j_if_lt (tgt := 42) (D_Hall_dower 1 rfl) rfl (ha3) (fun c1 => ?_) (fun c1 => ?_)
  · replace h := ite_t h c1
    refine j_iconst (v := (-1)) (D_Hall_dower 20 rfl) rfl ?_
    exact j_iret (D_Hall_dower 21 rfl) rfl (wr_lit rfl) rfl rfl (leafI h (wr_n (wr_lit rfl)))
  · replace h := ite_f h c1
    refine j_iloadn (k := 3) (D_Hall_dower 2 rfl) rfl rfl ?_
    refine j_iconst (v := 3) (D_Hall_dower 3 rfl) rfl ?_
    refine j_ic_gt (tgt := 42) (D_Hall_dower 4 rfl) rfl (ha3) (wr_lit rfl) (fun c2 => ?_) (fun c2 => ?_)
    · replace h := ite_t h c2
      refine j_iconst (v := (-1)) (D_Hall_dower 20 rfl) rfl ?_
      exact j_iret (D_Hall_dower 21 rfl) rfl (wr_lit rfl) rfl rfl (leafI h (wr_n (wr_lit rfl)))
    · replace h := ite_f h c2
      refine j_aloadn (k := 0) (D_Hall_dower 5 rfl) rfl rfl ?_
      refine j_getR rfl fa_Hall_19 kd_0 lc_0 (by decide) rfl fx_0_1 (by decide) (D_Hall_dower 6 rfl) ?_
      refine j_iloadn (k := 2) (D_Hall_dower 7 rfl) rfl rfl ?_
      obtain ⟨q1, e1, h⟩ := Option.bind_eq_some_iff.mp h
      refine j_cVz (c_Lands_has (ha2) e1) rfl lk_Hall_150 mok_Lands_has kd_9 lc_9 rfl (by decide) rfl rfl (Nat.le_of_ble_eq_true rfl) (D_Hall_dower 8 rfl) (fun w1 bw1 => ?_)
      refine j_if_eq (tgt := 42) (D_Hall_dower 9 rfl) rfl (w1) (fun c3 => ?_) (fun c3 => ?_)
      · replace h := ite_t h c3
        refine j_iconst (v := (-1)) (D_Hall_dower 20 rfl) rfl ?_
        exact j_iret (D_Hall_dower 21 rfl) rfl (wr_lit rfl) rfl rfl (leafI h (wr_n (wr_lit rfl)))
      · replace h := ite_f h c3
        refine j_aloadn (k := 0) (D_Hall_dower 10 rfl) rfl rfl ?_
        refine j_getR rfl fa_Hall_12 kd_0 lc_0 (by decide) rfl fx_0_0 (by decide) (D_Hall_dower 11 rfl) ?_
        refine j_iloadn (k := 1) (D_Hall_dower 12 rfl) rfl rfl ?_
        obtain ⟨q2, e2, h⟩ := Option.bind_eq_some_iff.mp h
        refine j_cVz (c_People_isMan (ha1) e2) rfl lk_Hall_107 mok_People_isMan kd_1 lc_1 rfl (by decide) rfl rfl (Nat.le_of_ble_eq_true rfl) (D_Hall_dower 13 rfl) (fun w2 bw2 => ?_)
        refine j_if_eq (tgt := 42) (D_Hall_dower 14 rfl) rfl (w2) (fun c4 => ?_) (fun c4 => ?_)
        · replace h := ite_t h c4
          refine j_iconst (v := (-1)) (D_Hall_dower 20 rfl) rfl ?_
          exact j_iret (D_Hall_dower 21 rfl) rfl (wr_lit rfl) rfl rfl (leafI h (wr_n (wr_lit rfl)))
        · replace h := ite_f h c4
          refine j_aloadn (k := 0) (D_Hall_dower 15 rfl) rfl rfl ?_
          refine j_getR rfl fa_Hall_12 kd_0 lc_0 (by decide) rfl fx_0_0 (by decide) (D_Hall_dower 16 rfl) ?_
          refine j_iloadn (k := 1) (D_Hall_dower 17 rfl) rfl rfl ?_
          obtain ⟨q3, e3, h⟩ := Option.bind_eq_some_iff.mp h
          refine j_cVz (c_People_isDead (ha1) e3) rfl lk_Hall_125 mok_People_isDead kd_1 lc_1 rfl (by decide) rfl rfl (Nat.le_of_ble_eq_true rfl) (D_Hall_dower 18 rfl) (fun w3 bw3 => ?_)
          refine j_if_ne (tgt := 44) (D_Hall_dower 19 rfl) rfl (w3) (fun c5 => ?_) (fun c5 => ?_)
          · replace h := ite_f h c5
            refine j_aloadn (k := 0) (D_Hall_dower 22 rfl) rfl rfl ?_
            refine j_getR rfl fa_Hall_12 kd_0 lc_0 (by decide) rfl fx_0_0 (by decide) (D_Hall_dower 23 rfl) ?_
            refine j_getR rfl fa_Hall_131 kd_1 lc_1 (by decide) rfl fx_1_5 (by decide) (D_Hall_dower 24 rfl) ?_
            refine j_iloadn (k := 1) (D_Hall_dower 25 rfl) rfl rfl ?_
            have g1 := gd_c h
            replace h := gd_s h
            refine j_iald (NI := 32) (D_Hall_dower 26 rfl) kd_7 lc_7 (ha1) rfl g1.1 g1.2 ?_
            refine j_istore (L' := [(4, vi (gi G 7 a1.toNat)), (0, rf X 0), (1, vi a1), (2, vi a2), (3, vi a3)]) (D_Hall_dower 27 rfl) (wr_gi _ _ _) (by decide) rfl ?_
            refine j_aloadn (k := 1) (D_Hall_dower 28 rfl) rfl rfl ?_
            refine j_getR rfl fa_Hall_12 kd_0 lc_0 (by decide) rfl fx_0_0 (by decide) (D_Hall_dower 29 rfl) ?_
            refine j_aloadn (k := 1) (D_Hall_dower 30 rfl) rfl rfl ?_
            refine j_getR rfl fa_Hall_12 kd_0 lc_0 (by decide) rfl fx_0_0 (by decide) (D_Hall_dower 31 rfl) ?_
            refine j_getR rfl fa_Hall_134 kd_1 lc_1 (by decide) rfl fx_1_6 (by decide) (D_Hall_dower 32 rfl) ?_
            refine j_iloadn (k := 2) (D_Hall_dower 33 rfl) rfl rfl ?_
            have g2 := gd_c h
            replace h := gd_s h
            refine j_iald (NI := 32) (D_Hall_dower 34 rfl) kd_8 lc_8 (ha1) rfl g2.1 g2.2 ?_
            refine j_iload (k := 0) (D_Hall_dower 35 rfl) rfl ?_
            obtain ⟨q4, e4, h⟩ := Option.bind_eq_some_iff.mp h
            refine j_cVz (c_People_isAlive (wr_gi _ _ _) (wr_gi _ _ _) e4) rfl lk_Hall_254 mok_People_isAlive kd_1 lc_1 rfl (by decide) rfl rfl (Nat.le_of_ble_eq_true rfl) (D_Hall_dower 36 rfl) (fun w4 bw4 => ?_)
            refine j_if_ne (tgt := 78) (D_Hall_dower 37 rfl) rfl (w4) (fun c6 => ?_) (fun c6 => ?_)
            · replace h := ite_f h c6
              refine j_aloadn (k := 1) (D_Hall_dower 40 rfl) rfl rfl ?_
              refine j_iload (k := 0) (D_Hall_dower 41 rfl) rfl ?_
              obtain ⟨q5, e5, h⟩ := Option.bind_eq_some_iff.mp h
              refine j_cVr (c_Hall_lawAt (wr_gi _ _ _) e5) rfl lk_Hall_185 mok_Hall_lawAt kd_0 lc_0 rfl (by decide) rfl rfl (Nat.le_of_ble_eq_true rfl) (D_Hall_dower 42 rfl) (fun w5 => ?_)
              refine j_astore (L' := [(5, rf X q5), (4, vi (gi G 7 a1.toNat)), (0, rf X 0), (1, vi a1), (2, vi a2), (3, vi a3)]) (D_Hall_dower 43 rfl) (by decide) rfl ?_
              refine j_iconst (v := 1) (D_Hall_dower 44 rfl) rfl ?_
              refine j_aload (k := 0) (D_Hall_dower 45 rfl) rfl ?_
              refine j_getI rfl fa_Hall_257 (law_kd w5).1 (law_kd w5).2.1 (by decide) rfl (D_Hall_dower 46 rfl) ?_
              refine j_mmax (wr_lit rfl) (wr_gi _ _ _) rfl lk_Hall_249 (by decide) (Nat.le_of_ble_eq_true rfl) (D_Hall_dower 47 rfl) ?_
              refine j_istore (L' := [(6, vi (max 1 (gi G q5 5))), (5, rf X q5), (4, vi (gi G 7 a1.toNat)), (0, rf X 0), (1, vi a1), (2, vi a2), (3, vi a3)]) (D_Hall_dower 48 rfl) (wr_max (wr_n (wr_lit rfl)) (wr_n (wr_gi _ _ _))) (by decide) rfl ?_
              refine j_aloadn (k := 3) (D_Hall_dower 49 rfl) rfl rfl ?_
              refine j_getR rfl fa_Hall_19 kd_0 lc_0 (by decide) rfl fx_0_1 (by decide) (D_Hall_dower 50 rfl) ?_
              refine j_iloadn (k := 5) (D_Hall_dower 51 rfl) rfl rfl ?_
              obtain ⟨q6, e6, h⟩ := Option.bind_eq_some_iff.mp h
              refine j_cVi (c_Lands_worthOf (ha2) e6) rfl lk_Hall_260 mok_Lands_worthOf kd_9 lc_9 rfl (by decide) rfl rfl (Nat.le_of_ble_eq_true rfl) (D_Hall_dower 52 rfl) (fun w6 => ?_)
              refine j_aload (k := 1) (D_Hall_dower 53 rfl) rfl ?_
              refine j_getI rfl fa_Hall_263 (law_kd w5).1 (law_kd w5).2.1 (by decide) rfl (D_Hall_dower 54 rfl) ?_
              refine j_imul (D_Hall_dower 55 rfl) ?_
              refine j_iload (k := 0) (D_Hall_dower 56 rfl) rfl ?_
              refine j_iadd (D_Hall_dower 57 rfl) ?_
              refine j_iconst (v := 1) (D_Hall_dower 58 rfl) rfl ?_
              refine j_isub (D_Hall_dower 59 rfl) ?_
              refine j_iload (k := 0) (D_Hall_dower 60 rfl) rfl ?_
              have g3 := gd_c h
              replace h := gd_s h
              refine j_idiv (D_Hall_dower 61 rfl) (wr_max (wr_n (wr_lit rfl)) (wr_n (wr_gi _ _ _))) g3 ?_
              refine j_istore (L' := [(7, vi (dv (((q6 * (gi G q5 4)) + (max 1 (gi G q5 5))) - 1) (max 1 (gi G q5 5)))), (6, vi (max 1 (gi G q5 5))), (5, rf X q5), (4, vi (gi G 7 a1.toNat)), (0, rf X 0), (1, vi a1), (2, vi a2), (3, vi a3)]) (D_Hall_dower 62 rfl) (wr_dv _ _) (by decide) rfl ?_
              refine j_aloadn (k := 4) (D_Hall_dower 63 rfl) rfl rfl ?_
              refine j_getR rfl fa_Hall_19 kd_0 lc_0 (by decide) rfl fx_0_1 (by decide) (D_Hall_dower 64 rfl) ?_
              refine j_iloadn (k := 6) (D_Hall_dower 65 rfl) rfl rfl ?_
              refine j_iload (k := 0) (D_Hall_dower 66 rfl) rfl ?_
              obtain ⟨q7, e7, h⟩ := Option.bind_eq_some_iff.mp h
              refine j_cVv (c_Lands_layDower (ha2) (wr_dv _ _) e7) rfl lk_Hall_266 mok_Lands_layDower kd_9 lc_9 rfl (by decide) rfl rfl (Nat.le_of_ble_eq_true rfl) (D_Hall_dower 67 rfl) ?_
              refine j_iloadn (k := 7) (D_Hall_dower 68 rfl) rfl rfl ?_
              by_cases c7 : a3 = 0
              · replace h := ite_t h c7
                refine j_tIn (tgt := 160) (D_Hall_dower 69 rfl) (ha3) c7 (by decide) (by decide) rfl rfl ?_
                refine j_iload (k := 0) (D_Hall_dower 70 rfl) rfl ?_
                exact j_iret (D_Hall_dower 71 rfl) rfl (wr_dv _ _) rfl rfl (leafI h (wr_n (wr_dv _ _)))
              · replace h := ite_f h c7
                by_cases c8 : a3 = 1
                · replace h := ite_t h c8
                  refine j_tIn (tgt := 163) (D_Hall_dower 69 rfl) (ha3) c8 (by decide) (by decide) rfl rfl ?_
                  refine j_aloadn (k := 4) (D_Hall_dower 72 rfl) rfl rfl ?_
                  refine j_getR rfl fa_Hall_19 kd_0 lc_0 (by decide) rfl fx_0_1 (by decide) (D_Hall_dower 73 rfl) ?_
                  refine j_getI rfl fa_Hall_269 kd_9 lc_9 (by decide) rfl (D_Hall_dower 74 rfl) ?_
                  exact j_iret (D_Hall_dower 75 rfl) rfl (wr_gi _ _ _) rfl rfl (leafI h (wr_n (wr_gi _ _ _)))
                · replace h := ite_f h c8
                  by_cases c9 : a3 = 2
                  · replace h := ite_t h c9
                    refine j_tIn (tgt := 171) (D_Hall_dower 69 rfl) (ha3) c9 (by decide) (by decide) rfl rfl ?_
                    refine j_aloadn (k := 4) (D_Hall_dower 76 rfl) rfl rfl ?_
                    refine j_getR rfl fa_Hall_19 kd_0 lc_0 (by decide) rfl fx_0_1 (by decide) (D_Hall_dower 77 rfl) ?_
                    refine j_getI rfl fa_Hall_272 kd_9 lc_9 (by decide) rfl (D_Hall_dower 78 rfl) ?_
                    exact j_iret (D_Hall_dower 79 rfl) rfl (wr_gi _ _ _) rfl rfl (leafI h (wr_n (wr_gi _ _ _)))
                  · replace h := ite_f h c9
                    refine j_tOut (tgt := 179) (D_Hall_dower 69 rfl) (ha3) (by omega) rfl ?_
                    refine j_aloadn (k := 4) (D_Hall_dower 80 rfl) rfl rfl ?_
                    refine j_getR rfl fa_Hall_19 kd_0 lc_0 (by decide) rfl fx_0_1 (by decide) (D_Hall_dower 81 rfl) ?_
                    refine j_getI rfl fa_Hall_275 kd_9 lc_9 (by decide) rfl (D_Hall_dower 82 rfl) ?_
                    exact j_iret (D_Hall_dower 83 rfl) rfl (wr_gi _ _ _) rfl rfl (leafI h (wr_n (wr_gi _ _ _)))
            · replace h := ite_t h c6
              refine j_iconst (v := (-1)) (D_Hall_dower 38 rfl) rfl ?_
              exact j_iret (D_Hall_dower 39 rfl) rfl (wr_lit rfl) rfl rfl (leafI h (wr_n (wr_lit rfl)))
          · replace h := ite_t h c5
            refine j_iconst (v := (-1)) (D_Hall_dower 20 rfl) rfl ?_
            exact j_iret (D_Hall_dower 21 rfl) rfl (wr_lit rfl) rfl rfl (leafI h (wr_n (wr_lit rfl)))
