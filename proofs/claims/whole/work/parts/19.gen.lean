/-! printed by wip/whole/gen.py out of the listing of the bytecode -/
abbrev M_Model_children : MI := (⟨"InquestHallModel", "children", "(II)V"⟩, prog_14_method_58_code, 6, none)
theorem cw_Model_children : Cond.code M_Model_children.1 M_Model_children.2.1 M_Model_children.2.2.1 M_Model_children.2.2.2 ∈ TS := mTS (List.mem_of_getElem? (i := 1830) (by decide +kernel)) (by decide +kernel)
theorem lk_Model_453 : Cond.methodLink "InquestHallModel" 453 M_Model_chosen.1 ∈ TS := mTS (List.mem_of_getElem? (i := 1838) (by decide +kernel)) (by decide +kernel)
theorem mok_Model_chosen : MOK M_Model_chosen 2 := ⟨mTS (List.mem_of_getElem? (i := 1840) (by decide +kernel)) (by decide +kernel), mTS (List.mem_of_getElem? (i := 99) (by decide +kernel)) (by decide +kernel), mTS (List.mem_of_getElem? (i := 139) (by decide +kernel)) (by decide +kernel), cw_Model_chosen, ⟨by decide, by decide, by decide +kernel⟩, by decide +kernel, by decide⟩
theorem lk_Model_449 : Cond.methodLink "InquestHallModel" 449 M_Model_likeParts.1 ∈ TS := mTS (List.mem_of_getElem? (i := 1831) (by decide +kernel)) (by decide +kernel)
theorem mok_Model_likeParts : MOK M_Model_likeParts 4 := ⟨mTS (List.mem_of_getElem? (i := 1833) (by decide +kernel)) (by decide +kernel), mTS (List.mem_of_getElem? (i := 98) (by decide +kernel)) (by decide +kernel), mTS (List.mem_of_getElem? (i := 139) (by decide +kernel)) (by decide +kernel), cw_Model_likeParts, ⟨by decide, by decide, by decide +kernel⟩, by decide +kernel, by decide⟩
def tb_Model_children : List (Nat × Instr × Nat) := [(0, .iconst 0, 1), (1, .istore_n 3, 1), (2, .iconst 0, 1), (3, .istore 4, 2), (5, .iload_n 1, 1), (6, .iconst 1, 1), (7, .iadd, 1), (8, .istore 5, 2), (10, .iload 5, 2), (12, .aload_n 0, 1), (13, .getfield 195, 3), (16, .if_icmp .ge 51, 3), (19, .iload_n 3, 1), (20, .aload_n 0, 1), (21, .iload 5, 2), (23, .iload_n 1, 1), (24, .iload_n 2, 1), (25, .iconst 0, 1), (26, .invokevirtual 442, 3), (29, .ifCond .eq 7, 3), (32, .iconst 1, 1), (33, .goto 4, 3), (36, .iconst 0, 1), (37, .iadd, 1), (38, .istore_n 3, 1), (39, .iload 4, 2), (41, .aload_n 0, 1), (42, .iload 5, 2), (44, .iload_n 1, 1), (45, .iload_n 2, 1), (46, .iconst 1, 1), (47, .invokevirtual 442, 3), (50, .ifCond .eq 7, 3), (53, .iconst 1, 1), (54, .goto 4, 3), (57, .iconst 0, 1), (58, .iadd, 1), (59, .istore 4, 2), (61, .iinc 5 1, 3), (64, .goto (-54), 3), (67, .aload_n 0, 1), (68, .lconst 0, 1), (69, .putfield 432, 3), (72, .aload_n 0, 1), (73, .lconst 1, 1), (74, .putfield 436, 3), (77, .iload_n 3, 1), (78, .ifCond .ne 9, 3), (81, .iload 4, 2), (83, .ifCond .ne 4, 3), (86, .return_, 1), (87, .iload_n 3, 1), (88, .ifCond .eq 11, 3), (91, .aload_n 0, 1), (92, .getfield 446, 3), (95, .iconst 2, 1), (96, .if_icmp .ne 31, 3), (99, .aload_n 0, 1), (100, .iload_n 1, 1), (101, .iload_n 2, 1), (102, .iload_n 3, 1), (103, .ifCond .ne 7, 3), (106, .iconst 1, 1), (107, .goto 4, 3), (110, .iconst 0, 1), (111, .iload_n 3, 1), (112, .ifCond .ne 8, 3), (115, .iload 4, 2), (117, .goto 4, 3), (120, .iload_n 3, 1), (121, .invokevirtual 449, 3), (124, .goto 9, 3), (127, .aload_n 0, 1), (128, .iload_n 1, 1), (129, .iload_n 2, 1), (130, .invokevirtual 453, 3), (133, .return_, 1)]
theorem D_Model_children (i : Nat) {pc len : Nat} {ins : Instr} (hi : tb_Model_children[i]? = some (pc, ins, len)) : decode M_Model_children.2.1 pc = .ok (ins, len) := dec_of (by decide +kernel) i hi
def f_Model_children_L121 (G : GS) (s0 : Int) (s1 : Int) (s2 : Int) (s3 : Int) : Option (GS) :=
  (f_Model_likeParts G s3 s2 s1 s0).bind fun q1 =>
  some q1
theorem s_Model_children_L121 {X : XT} {r : GS} : ∀ {G : GS} {s0 : Int} {s1 : Int} {s2 : Int} {s3 : Int}, wr s0 = s0 → wr s1 = s1 → wr s2 = s2 → wr s3 = s3 → f_Model_children_L121 G s0 s1 s2 s3 = some r → J X true 10 0 0 M_Model_children (Rv r) NC 0 0 121 [(0, rf X 81)] [vi s0, vi s1, vi s2, vi s3, rf X 81] G := by
  intro G s0 s1 s2 s3 hs0 hs1 hs2 hs3 h
  unfold f_Model_children_L121 at h
  obtain ⟨q1, e1, h⟩ := Option.bind_eq_some_iff.mp h
  refine j_cVv (c_Model_likeParts (hs3) (hs2) (hs1) (hs0) e1) rfl lk_Model_449 mok_Model_likeParts kd_81 lc_81 rfl (by decide) rfl rfl (Nat.le_of_ble_eq_true rfl) (D_Model_children 70 rfl) ?_
  refine j_goto (tgt := 133) (D_Model_children 71 rfl) rfl ?_
  exact j_vret (D_Model_children 76 rfl) rfl rfl rfl (leafV h)
def f_Model_children_L111 (G : GS) (x3 : Int) (x4 : Int) (s0 : Int) (s1 : Int) (s2 : Int) : Option (GS) :=
  if x3 = 0 then
    f_Model_children_L121 G x4 s0 s1 s2
  else
    f_Model_children_L121 G x3 s0 s1 s2
theorem s_Model_children_L111 {X : XT} {r : GS} : ∀ {G : GS} {x3 : Int} {x4 : Int} {s0 : Int} {s1 : Int} {s2 : Int}, wr x3 = x3 → wr x4 = x4 → wr s0 = s0 → wr s1 = s1 → wr s2 = s2 → f_Model_children_L111 G x3 x4 s0 s1 s2 = some r → J X true 10 0 0 M_Model_children (Rv r) NC 0 0 111 [(0, rf X 81), (3, vi x3), (4, vi x4)] [vi s0, vi s1, vi s2, rf X 81] G := by
  intro G x3 x4 s0 s1 s2 hx3 hx4 hs0 hs1 hs2 h
  unfold f_Model_children_L111 at h
  refine j_iloadn (k := 1) (D_Model_children 65 rfl) rfl rfl ?_
  refine j_if_ne (tgt := 120) (D_Model_children 66 rfl) rfl (hx3) (fun c1 => ?_) (fun c1 => ?_)
  · replace h := ite_f h c1
    refine j_iloadn (k := 1) (D_Model_children 69 rfl) rfl rfl ?_
    refine j_loc [0] rfl ?_
    exact s_Model_children_L121 (hx3) (hs0) (hs1) (hs2) h
  · replace h := ite_t h c1
    refine j_iload (k := 2) (D_Model_children 67 rfl) rfl ?_
    refine j_goto (tgt := 121) (D_Model_children 68 rfl) rfl ?_
    refine j_loc [0] rfl ?_
    exact s_Model_children_L121 (hx4) (hs0) (hs1) (hs2) h
def f_Model_children_L99 (G : GS) (x1 : Int) (x2 : Int) (x3 : Int) (x4 : Int) : Option (GS) :=
  if x3 = 0 then
    f_Model_children_L111 G x3 x4 1 x2 x1
  else
    f_Model_children_L111 G x3 x4 0 x2 x1
theorem s_Model_children_L99 {X : XT} {r : GS} : ∀ {G : GS} {x1 : Int} {x2 : Int} {x3 : Int} {x4 : Int}, wr x1 = x1 → wr x2 = x2 → wr x3 = x3 → wr x4 = x4 → f_Model_children_L99 G x1 x2 x3 x4 = some r → J X true 10 0 0 M_Model_children (Rv r) NC 0 0 99 [(0, rf X 81), (1, vi x1), (2, vi x2), (3, vi x3), (4, vi x4)] [] G := by
  intro G x1 x2 x3 x4 hx1 hx2 hx3 hx4 h
  unfold f_Model_children_L99 at h
  refine j_aloadn (k := 0) (D_Model_children 57 rfl) rfl rfl ?_
  refine j_iloadn (k := 1) (D_Model_children 58 rfl) rfl rfl ?_
  refine j_iloadn (k := 2) (D_Model_children 59 rfl) rfl rfl ?_
  refine j_iloadn (k := 3) (D_Model_children 60 rfl) rfl rfl ?_
  refine j_if_ne (tgt := 110) (D_Model_children 61 rfl) rfl (hx3) (fun c1 => ?_) (fun c1 => ?_)
  · replace h := ite_f h c1
    refine j_iconst (v := 0) (D_Model_children 64 rfl) rfl ?_
    refine j_loc [0, 3, 4] rfl ?_
    exact s_Model_children_L111 (hx3) (hx4) (wr_lit rfl) (hx2) (hx1) h
  · replace h := ite_t h c1
    refine j_iconst (v := 1) (D_Model_children 62 rfl) rfl ?_
    refine j_goto (tgt := 111) (D_Model_children 63 rfl) rfl ?_
    refine j_loc [0, 3, 4] rfl ?_
    exact s_Model_children_L111 (hx3) (hx4) (wr_lit rfl) (hx2) (hx1) h
def f_Model_children_L87 (G : GS) (x1 : Int) (x2 : Int) (x3 : Int) (x4 : Int) : Option (GS) :=
  if x3 = 0 then
    f_Model_children_L99 G x1 x2 x3 x4
  else
    if gi G 81 56 = 2 then
      f_Model_children_L99 G x1 x2 x3 x4
    else
      (f_Model_chosen G x1 x2).bind fun q1 =>
      some q1
theorem s_Model_children_L87 {X : XT} {r : GS} : ∀ {G : GS} {x1 : Int} {x2 : Int} {x3 : Int} {x4 : Int}, wr x1 = x1 → wr x2 = x2 → wr x3 = x3 → wr x4 = x4 → f_Model_children_L87 G x1 x2 x3 x4 = some r → J X true 10 0 0 M_Model_children (Rv r) NC 0 0 87 [(0, rf X 81), (1, vi x1), (2, vi x2), (3, vi x3), (4, vi x4)] [] G := by
  intro G x1 x2 x3 x4 hx1 hx2 hx3 hx4 h
  unfold f_Model_children_L87 at h
  refine j_iloadn (k := 3) (D_Model_children 51 rfl) rfl rfl ?_
  refine j_if_eq (tgt := 99) (D_Model_children 52 rfl) rfl (hx3) (fun c1 => ?_) (fun c1 => ?_)
  · replace h := ite_t h c1
    refine j_loc [0, 1, 2, 3, 4] rfl ?_
    exact s_Model_children_L99 (hx1) (hx2) (hx3) (hx4) h
  · replace h := ite_f h c1
    refine j_aloadn (k := 0) (D_Model_children 53 rfl) rfl rfl ?_
    refine j_getI rfl fa_Model_446 kd_81 lc_81 (by decide) rfl (D_Model_children 54 rfl) ?_
    refine j_iconst (v := 2) (D_Model_children 55 rfl) rfl ?_
    refine j_ic_ne (tgt := 127) (D_Model_children 56 rfl) rfl (wr_gi _ _ _) (wr_lit rfl) (fun c2 => ?_) (fun c2 => ?_)
    · replace h := ite_f h c2
      refine j_aloadn (k := 0) (D_Model_children 72 rfl) rfl rfl ?_
      refine j_iloadn (k := 1) (D_Model_children 73 rfl) rfl rfl ?_
      refine j_iloadn (k := 2) (D_Model_children 74 rfl) rfl rfl ?_
      obtain ⟨q1, e1, h⟩ := Option.bind_eq_some_iff.mp h
      refine j_cVv (c_Model_chosen (hx1) (hx2) e1) rfl lk_Model_453 mok_Model_chosen kd_81 lc_81 rfl (by decide) rfl rfl (Nat.le_of_ble_eq_true rfl) (D_Model_children 75 rfl) ?_
      exact j_vret (D_Model_children 76 rfl) rfl rfl rfl (leafV h)
    · replace h := ite_t h c2
      refine j_loc [0, 1, 2, 3, 4] rfl ?_
      exact s_Model_children_L99 (hx1) (hx2) (hx3) (hx4) h
def f_Model_children_L58 (k10 : GS → Int → Int → Int → Int → Int → Option (GS)) (G : GS) (x1 : Int) (x2 : Int) (x3 : Int) (x5 : Int) (s0 : Int) (s1 : Int) : Option (GS) :=
  k10 G x1 x2 x3 (wr (s1 + s0)) (wr (x5 + 1))
theorem s_Model_children_L58 {X : XT} {r : GS} {k10 : GS → Int → Int → Int → Int → Int → Option (GS)} (hk10 : ∀ {G : GS} {x1 : Int} {x2 : Int} {x3 : Int} {x4 : Int} {x5 : Int} , wr x1 = x1 → wr x2 = x2 → wr x3 = x3 → wr x4 = x4 → wr x5 = x5 → k10 G x1 x2 x3 x4 x5 = some r → J X true 10 0 0 M_Model_children (Rv r) NC 0 0 10 [(0, rf X 81), (1, vi x1), (2, vi x2), (3, vi x3), (4, vi x4), (5, vi x5)] [] G) : ∀ {G : GS} {x1 : Int} {x2 : Int} {x3 : Int} {x5 : Int} {s0 : Int} {s1 : Int}, wr x1 = x1 → wr x2 = x2 → wr x3 = x3 → wr x5 = x5 → wr s0 = s0 → wr s1 = s1 → f_Model_children_L58 k10 G x1 x2 x3 x5 s0 s1 = some r → J X true 10 0 0 M_Model_children (Rv r) NC 0 0 58 [(0, rf X 81), (1, vi x1), (2, vi x2), (3, vi x3), (5, vi x5)] [vi s0, vi s1] G := by
  intro G x1 x2 x3 x5 s0 s1 hx1 hx2 hx3 hx5 hs0 hs1 h
  unfold f_Model_children_L58 at h
  refine j_iadd (D_Model_children 36 rfl) ?_
  refine j_istore (L' := [(4, vi (wr (s1 + s0))), (0, rf X 81), (1, vi x1), (2, vi x2), (3, vi x3), (5, vi x5)]) (D_Model_children 37 rfl) (rfl) (by decide) rfl ?_
  refine j_iinc (k := 5) (L' := [(5, vi (wr (x5 + 1))), (4, vi (wr (s1 + s0))), (0, rf X 81), (1, vi x1), (2, vi x2), (3, vi x3)]) (D_Model_children 38 rfl) rfl rfl (by decide) rfl ?_
  refine j_goto (tgt := 10) (D_Model_children 39 rfl) rfl ?_
  refine j_loc [2, 3, 4, 5, 1, 0] rfl ?_
  exact hk10 (hx1) (hx2) (hx3) (wr_wr _) (wr_wr _) h
def f_Model_children_L37 (k10 : GS → Int → Int → Int → Int → Int → Option (GS)) (G : GS) (x1 : Int) (x2 : Int) (x4 : Int) (x5 : Int) (s0 : Int) (s1 : Int) : Option (GS) :=
  (f_Model_isOne G x5 x1 x2 1).bind fun q1 =>
  if q1 = 0 then
    f_Model_children_L58 k10 G x1 x2 (wr (s1 + s0)) x5 0 x4
  else
    f_Model_children_L58 k10 G x1 x2 (wr (s1 + s0)) x5 1 x4
theorem s_Model_children_L37 {X : XT} {r : GS} {k10 : GS → Int → Int → Int → Int → Int → Option (GS)} (hk10 : ∀ {G : GS} {x1 : Int} {x2 : Int} {x3 : Int} {x4 : Int} {x5 : Int} , wr x1 = x1 → wr x2 = x2 → wr x3 = x3 → wr x4 = x4 → wr x5 = x5 → k10 G x1 x2 x3 x4 x5 = some r → J X true 10 0 0 M_Model_children (Rv r) NC 0 0 10 [(0, rf X 81), (1, vi x1), (2, vi x2), (3, vi x3), (4, vi x4), (5, vi x5)] [] G) : ∀ {G : GS} {x1 : Int} {x2 : Int} {x4 : Int} {x5 : Int} {s0 : Int} {s1 : Int}, wr x1 = x1 → wr x2 = x2 → wr x4 = x4 → wr x5 = x5 → wr s0 = s0 → wr s1 = s1 → f_Model_children_L37 k10 G x1 x2 x4 x5 s0 s1 = some r → J X true 10 0 0 M_Model_children (Rv r) NC 0 0 37 [(0, rf X 81), (1, vi x1), (2, vi x2), (4, vi x4), (5, vi x5)] [vi s0, vi s1] G := by
  intro G x1 x2 x4 x5 s0 s1 hx1 hx2 hx4 hx5 hs0 hs1 h
  unfold f_Model_children_L37 at h
  refine j_iadd (D_Model_children 23 rfl) ?_
  refine j_istoren (L' := [(3, vi (wr (s1 + s0))), (0, rf X 81), (1, vi x1), (2, vi x2), (4, vi x4), (5, vi x5)]) (D_Model_children 24 rfl) rfl (rfl) (by decide) rfl ?_
  refine j_iload (k := 4) (D_Model_children 25 rfl) rfl ?_
  refine j_aloadn (k := 1) (D_Model_children 26 rfl) rfl rfl ?_
  refine j_iload (k := 5) (D_Model_children 27 rfl) rfl ?_
  refine j_iloadn (k := 2) (D_Model_children 28 rfl) rfl rfl ?_
  refine j_iloadn (k := 3) (D_Model_children 29 rfl) rfl rfl ?_
  refine j_iconst (v := 1) (D_Model_children 30 rfl) rfl ?_
  obtain ⟨q1, e1, h⟩ := Option.bind_eq_some_iff.mp h
  refine j_cVz (c_Model_isOne (hx5) (hx1) (hx2) (wr_lit rfl) e1) rfl lk_Model_442 mok_Model_isOne kd_81 lc_81 rfl (by decide) rfl rfl (Nat.le_of_ble_eq_true rfl) (D_Model_children 31 rfl) (fun w1 bw1 => ?_)
  refine j_if_eq (tgt := 57) (D_Model_children 32 rfl) rfl (w1) (fun c1 => ?_) (fun c1 => ?_)
  · replace h := ite_t h c1
    refine j_iconst (v := 0) (D_Model_children 35 rfl) rfl ?_
    refine j_loc [1, 2, 3, 0, 5] rfl ?_
    exact s_Model_children_L58 hk10 (hx1) (hx2) (wr_wr _) (hx5) (wr_lit rfl) (hx4) h
  · replace h := ite_f h c1
    refine j_iconst (v := 1) (D_Model_children 33 rfl) rfl ?_
    refine j_goto (tgt := 58) (D_Model_children 34 rfl) rfl ?_
    refine j_loc [1, 2, 3, 0, 5] rfl ?_
    exact s_Model_children_L58 hk10 (hx1) (hx2) (wr_wr _) (hx5) (wr_lit rfl) (hx4) h
def f_Model_children_L10 : Nat → GS → Int → Int → Int → Int → Int → Option (GS)
  | 0, _, _, _, _, _, _ => none
  | n + 1, G, x1, x2, x3, x4, x5 =>
    if gi G 81 1 ≤ x5 then
      wG (sl G 81 61 0) fun G1 =>
      wG (sl G1 81 62 1) fun G2 =>
      if x3 = 0 then
        if x4 = 0 then
          some G2
        else
          f_Model_children_L87 G2 x1 x2 x3 x4
      else
        f_Model_children_L87 G2 x1 x2 x3 x4
    else
      (f_Model_isOne G x5 x1 x2 0).bind fun q1 =>
      if q1 = 0 then
        f_Model_children_L37 (f_Model_children_L10 n) G x1 x2 x4 x5 0 x3
      else
        f_Model_children_L37 (f_Model_children_L10 n) G x1 x2 x4 x5 1 x3
theorem s_Model_children_L10 {X : XT} {r : GS} : ∀ (n : Nat) {G : GS} {x1 : Int} {x2 : Int} {x3 : Int} {x4 : Int} {x5 : Int}, wr x1 = x1 → wr x2 = x2 → wr x3 = x3 → wr x4 = x4 → wr x5 = x5 → f_Model_children_L10 n G x1 x2 x3 x4 x5 = some r → J X true 10 0 0 M_Model_children (Rv r) NC 0 0 10 [(0, rf X 81), (1, vi x1), (2, vi x2), (3, vi x3), (4, vi x4), (5, vi x5)] [] G := by
  intro n
  induction n with
  | zero =>
    intro G x1 x2 x3 x4 x5 hx1 hx2 hx3 hx4 hx5 h
    exact none_some h
  | succ n ih =>
    intro G x1 x2 x3 x4 x5 hx1 hx2 hx3 hx4 hx5 h
    rw [f_Model_children_L10] at h
    refine j_iload (k := 5) (D_Model_children 8 rfl) rfl ?_
    refine j_aloadn (k := 0) (D_Model_children 9 rfl) rfl rfl ?_
    refine j_getI rfl fa_Model_195 kd_81 lc_81 (by decide) rfl (D_Model_children 10 rfl) ?_
    refine j_ic_ge (tgt := 67) (D_Model_children 11 rfl) rfl (hx5) (wr_gi _ _ _) (fun c1 => ?_) (fun c1 => ?_)
    · replace h := ite_t h c1
      refine j_aloadn (k := 0) (D_Model_children 40 rfl) rfl rfl ?_
      refine j_lconst (v := 0) (D_Model_children 41 rfl) rfl ?_
      refine j_putJ rfl fa_Model_432 kd_81 lc_81 (by decide) rfl (D_Model_children 42 rfl) ?_
      refine j_gen (fun G1 e1 => ?_)
      replace h := wG_at h e1
      refine j_aloadn (k := 0) (D_Model_children 43 rfl) rfl rfl ?_
      refine j_lconst (v := 1) (D_Model_children 44 rfl) rfl ?_
      refine j_putJ rfl fa_Model_436 kd_81 lc_81 (by decide) rfl (D_Model_children 45 rfl) ?_
      refine j_gen (fun G2 e2 => ?_)
      replace h := wG_at h e2
      refine j_iloadn (k := 3) (D_Model_children 46 rfl) rfl rfl ?_
      refine j_if_ne (tgt := 87) (D_Model_children 47 rfl) rfl (hx3) (fun c2 => ?_) (fun c2 => ?_)
      · replace h := ite_f h c2
        refine j_loc [0, 1, 2, 3, 4] rfl ?_
        exact s_Model_children_L87 (hx1) (hx2) (hx3) (hx4) h
      · replace h := ite_t h c2
        refine j_iload (k := 4) (D_Model_children 48 rfl) rfl ?_
        refine j_if_ne (tgt := 87) (D_Model_children 49 rfl) rfl (hx4) (fun c3 => ?_) (fun c3 => ?_)
        · replace h := ite_f h c3
          refine j_loc [0, 1, 2, 3, 4] rfl ?_
          exact s_Model_children_L87 (hx1) (hx2) (hx3) (hx4) h
        · replace h := ite_t h c3
          exact j_vret (D_Model_children 50 rfl) rfl rfl rfl (leafV h)
    · replace h := ite_f h c1
      refine j_iloadn (k := 3) (D_Model_children 12 rfl) rfl rfl ?_
      refine j_aloadn (k := 0) (D_Model_children 13 rfl) rfl rfl ?_
      refine j_iload (k := 5) (D_Model_children 14 rfl) rfl ?_
      refine j_iloadn (k := 1) (D_Model_children 15 rfl) rfl rfl ?_
      refine j_iloadn (k := 2) (D_Model_children 16 rfl) rfl rfl ?_
      refine j_iconst (v := 0) (D_Model_children 17 rfl) rfl ?_
      obtain ⟨q1, e3, h⟩ := Option.bind_eq_some_iff.mp h
      refine j_cVz (c_Model_isOne (hx5) (hx1) (hx2) (wr_lit rfl) e3) rfl lk_Model_442 mok_Model_isOne kd_81 lc_81 rfl (by decide) rfl rfl (Nat.le_of_ble_eq_true rfl) (D_Model_children 18 rfl) (fun w1 bw1 => ?_)
      refine j_if_eq (tgt := 36) (D_Model_children 19 rfl) rfl (w1) (fun c4 => ?_) (fun c4 => ?_)
      · replace h := ite_t h c4
        refine j_iconst (v := 0) (D_Model_children 22 rfl) rfl ?_
        refine j_loc [0, 1, 2, 4, 5] rfl ?_
        exact s_Model_children_L37 ih (hx1) (hx2) (hx4) (hx5) (wr_lit rfl) (hx3) h
      · replace h := ite_f h c4
        refine j_iconst (v := 1) (D_Model_children 20 rfl) rfl ?_
        refine j_goto (tgt := 37) (D_Model_children 21 rfl) rfl ?_
        refine j_loc [0, 1, 2, 4, 5] rfl ?_
        exact s_Model_children_L37 ih (hx1) (hx2) (hx4) (hx5) (wr_lit rfl) (hx3) h
def f_Model_children (G : GS) (a1 : Int) (a2 : Int) : Option (GS) :=
  f_Model_children_L10 FU G a1 a2 0 0 (wr (a1 + 1))
theorem c_Model_children {X : XT} {G : GS} {a1 : Int} {a2 : Int} {r : GS} (ha1 : wr a1 = a1) (ha2 : wr a2 = a2) (h : f_Model_children G a1 a2 = some r) : Call X true 10 0 0 M_Model_children [rf X 81, vi a1, vi a2] NC G (Rv r) := by
  refine Call_of_J cw_Model_children (by decide +kernel) (Nat.le_of_ble_eq_true rfl) ?_
  unfold f_Model_children at h
  show J X true 10 0 0 M_Model_children (Rv r) NC 0 0 0 [(0, rf X 81), (1, vi a1), (2, vi a2)] [] G
  refine j_iconst (v := 0) (D_Model_children 0 rfl) rfl ?_
  refine j_istoren (L' := [(3, vi 0), (0, rf X 81), (1, vi a1), (2, vi a2)]) (D_Model_children 1 rfl) rfl (wr_lit rfl) (by decide) rfl ?_
  refine j_iconst (v := 0) (D_Model_children 2 rfl) rfl ?_
  refine j_istore (L' := [(4, vi 0), (3, vi 0), (0, rf X 81), (1, vi a1), (2, vi a2)]) (D_Model_children 3 rfl) (wr_lit rfl) (by decide) rfl ?_
  refine j_iloadn (k := 3) (D_Model_children 4 rfl) rfl rfl ?_
  refine j_iconst (v := 1) (D_Model_children 5 rfl) rfl ?_
  refine j_iadd (D_Model_children 6 rfl) ?_
  refine j_istore (L' := [(5, vi (wr (a1 + 1))), (4, vi 0), (3, vi 0), (0, rf X 81), (1, vi a1), (2, vi a2)]) (D_Model_children 7 rfl) (rfl) (by decide) rfl ?_
  refine j_loc [3, 4, 5, 2, 1, 0] rfl ?_
  exact s_Model_children_L10 FU (ha1) (ha2) (wr_lit rfl) (wr_lit rfl) (wr_wr _) h
abbrev M_Model_lines : MI := (⟨"InquestHallModel", "lines", "(I)V"⟩, prog_14_method_55_code, 3, none)
theorem cw_Model_lines : Cond.code M_Model_lines.1 M_Model_lines.2.1 M_Model_lines.2.2.1 M_Model_lines.2.2.2 ∈ TS := mTS (List.mem_of_getElem? (i := 1810) (by decide +kernel)) (by decide +kernel)
theorem lk_Model_423 : Cond.methodLink "InquestHallModel" 423 M_Model_isAlive.1 ∈ TS := mTS (List.mem_of_getElem? (i := 1811) (by decide +kernel)) (by decide +kernel)
theorem mok_Model_isAlive : MOK M_Model_isAlive 2 := ⟨mTS (List.mem_of_getElem? (i := 1813) (by decide +kernel)) (by decide +kernel), mTS (List.mem_of_getElem? (i := 93) (by decide +kernel)) (by decide +kernel), mTS (List.mem_of_getElem? (i := 139) (by decide +kernel)) (by decide +kernel), cw_Model_isAlive, ⟨by decide, by decide, by decide +kernel⟩, by decide +kernel, by decide⟩
theorem lk_Model_426 : Cond.methodLink "InquestHallModel" 426 M_Model_hasChildren.1 ∈ TS := mTS (List.mem_of_getElem? (i := 1815) (by decide +kernel)) (by decide +kernel)
theorem mok_Model_hasChildren : MOK M_Model_hasChildren 2 := ⟨mTS (List.mem_of_getElem? (i := 1817) (by decide +kernel)) (by decide +kernel), mTS (List.mem_of_getElem? (i := 94) (by decide +kernel)) (by decide +kernel), mTS (List.mem_of_getElem? (i := 139) (by decide +kernel)) (by decide +kernel), cw_Model_hasChildren, ⟨by decide, by decide, by decide +kernel⟩, by decide +kernel, by decide⟩
theorem lk_Model_429 : Cond.methodLink "InquestHallModel" 429 M_Model_children.1 ∈ TS := mTS (List.mem_of_getElem? (i := 1827) (by decide +kernel)) (by decide +kernel)
theorem mok_Model_children : MOK M_Model_children 2 := ⟨mTS (List.mem_of_getElem? (i := 1829) (by decide +kernel)) (by decide +kernel), mTS (List.mem_of_getElem? (i := 97) (by decide +kernel)) (by decide +kernel), mTS (List.mem_of_getElem? (i := 139) (by decide +kernel)) (by decide +kernel), cw_Model_children, ⟨by decide, by decide, by decide +kernel⟩, by decide +kernel, by decide⟩
def tb_Model_lines : List (Nat × Instr × Nat) := [(0, .aload_n 0, 1), (1, .getfield 195, 3), (4, .iconst 1, 1), (5, .isub, 1), (6, .istore_n 2, 1), (7, .iload_n 2, 1), (8, .ifCond .lt 97, 3), (11, .aload_n 0, 1), (12, .getfield 125, 3), (15, .iload_n 2, 1), (16, .aload_n 0, 1), (17, .iload_n 2, 1), (18, .aload_n 0, 1), (19, .getfield 420, 3), (22, .invokevirtual 423, 3), (25, .bastore, 1), (26, .aload_n 0, 1), (27, .getfield 125, 3), (30, .iload_n 2, 1), (31, .baload, 1), (32, .ifCond .eq 29, 3), (35, .aload_n 0, 1), (36, .getfield 129, 3), (39, .iload_n 2, 1), (40, .iload_n 2, 1), (41, .iload_n 1, 1), (42, .if_icmp .ne 7, 3), (45, .lconst 1, 1), (46, .goto 4, 3), (49, .lconst 0, 1), (50, .lastore, 1), (51, .aload_n 0, 1), (52, .getfield 133, 3), (55, .iload_n 2, 1), (56, .lconst 1, 1), (57, .lastore, 1), (58, .goto 41, 3), (61, .aload_n 0, 1), (62, .getfield 125, 3), (65, .iload_n 2, 1), (66, .aload_n 0, 1), (67, .iload_n 2, 1), (68, .iconst (-1), 1), (69, .invokevirtual 426, 3), (72, .bastore, 1), (73, .aload_n 0, 1), (74, .iload_n 2, 1), (75, .iconst (-1), 1), (76, .invokevirtual 429, 3), (79, .aload_n 0, 1), (80, .getfield 129, 3), (83, .iload_n 2, 1), (84, .aload_n 0, 1), (85, .getfield 432, 3), (88, .lastore, 1), (89, .aload_n 0, 1), (90, .getfield 133, 3), (93, .iload_n 2, 1), (94, .aload_n 0, 1), (95, .getfield 436, 3), (98, .lastore, 1), (99, .iinc 2 (-1), 3), (102, .goto (-95), 3), (105, .return_, 1)]
theorem D_Model_lines (i : Nat) {pc len : Nat} {ins : Instr} (hi : tb_Model_lines[i]? = some (pc, ins, len)) : decode M_Model_lines.2.1 pc = .ok (ins, len) := dec_of (by decide +kernel) i hi
def f_Model_lines_L99 (k7 : GS → Int → Int → Option (GS)) (G : GS) (x1 : Int) (x2 : Int) : Option (GS) :=
  k7 G x1 (wr (x2 + (-1)))
theorem s_Model_lines_L99 {X : XT} {r : GS} {k7 : GS → Int → Int → Option (GS)} (hk7 : ∀ {G : GS} {x1 : Int} {x2 : Int} , wr x1 = x1 → wr x2 = x2 → k7 G x1 x2 = some r → J X true 11 0 0 M_Model_lines (Rv r) NC 0 0 7 [(0, rf X 81), (1, vi x1), (2, vi x2)] [] G) : ∀ {G : GS} {x1 : Int} {x2 : Int}, wr x1 = x1 → wr x2 = x2 → f_Model_lines_L99 k7 G x1 x2 = some r → J X true 11 0 0 M_Model_lines (Rv r) NC 0 0 99 [(0, rf X 81), (1, vi x1), (2, vi x2)] [] G := by
  intro G x1 x2 hx1 hx2 h
  unfold f_Model_lines_L99 at h
  refine j_iinc (k := 2) (L' := [(2, vi (wr (x2 + (-1)))), (0, rf X 81), (1, vi x1)]) (D_Model_lines 61 rfl) rfl rfl (by decide) rfl ?_
  refine j_goto (tgt := 7) (D_Model_lines 62 rfl) rfl ?_
  refine j_loc [1, 2, 0] rfl ?_
  exact hk7 (hx1) (wr_wr _) h
def f_Model_lines_L50 (k7 : GS → Int → Int → Option (GS)) (G : GS) (x1 : Int) (x2 : Int) (s0 : Int) (s1 : Int) : Option (GS) :=
  gd (0 ≤ s1 ∧ s1 < 32) <|
  wG (sl G 120 s1.toNat s0) fun G1 =>
  gd (0 ≤ x2 ∧ x2 < 32) <|
  wG (sl G1 121 x2.toNat 1) fun G2 =>
  f_Model_lines_L99 k7 G2 x1 x2
theorem s_Model_lines_L50 {X : XT} {r : GS} {k7 : GS → Int → Int → Option (GS)} (hk7 : ∀ {G : GS} {x1 : Int} {x2 : Int} , wr x1 = x1 → wr x2 = x2 → k7 G x1 x2 = some r → J X true 11 0 0 M_Model_lines (Rv r) NC 0 0 7 [(0, rf X 81), (1, vi x1), (2, vi x2)] [] G) : ∀ {G : GS} {x1 : Int} {x2 : Int} {s0 : Int} {s1 : Int}, wr x1 = x1 → wr x2 = x2 → wl s0 = s0 → wr s1 = s1 → f_Model_lines_L50 k7 G x1 x2 s0 s1 = some r → J X true 11 0 0 M_Model_lines (Rv r) NC 0 0 50 [(0, rf X 81), (1, vi x1), (2, vi x2)] [vl s0, vi s1, rf X 120] G := by
  intro G x1 x2 s0 s1 hx1 hx2 hs0 hs1 h
  unfold f_Model_lines_L50 at h
  have g1 := gd_c h
  replace h := gd_s h
  refine j_last (NI := 32) (D_Model_lines 30 rfl) kd_120 lc_120 (hs1) rfl g1.1 g1.2 ?_
  refine j_gen (fun G1 e1 => ?_)
  replace h := wG_at h e1
  refine j_aloadn (k := 0) (D_Model_lines 31 rfl) rfl rfl ?_
  refine j_getR rfl fa_Model_133 kd_81 lc_81 (by decide) rfl fx_81_60 (by decide) (D_Model_lines 32 rfl) ?_
  refine j_iloadn (k := 2) (D_Model_lines 33 rfl) rfl rfl ?_
  refine j_lconst (v := 1) (D_Model_lines 34 rfl) rfl ?_
  have g2 := gd_c h
  replace h := gd_s h
  refine j_last (NI := 32) (D_Model_lines 35 rfl) kd_121 lc_121 (hx2) rfl g2.1 g2.2 ?_
  refine j_gen (fun G2 e2 => ?_)
  replace h := wG_at h e2
  refine j_goto (tgt := 99) (D_Model_lines 36 rfl) rfl ?_
  refine j_loc [0, 1, 2] rfl ?_
  exact s_Model_lines_L99 hk7 (hx1) (hx2) h
def f_Model_lines_L7 : Nat → GS → Int → Int → Option (GS)
  | 0, _, _, _ => none
  | n + 1, G, x1, x2 =>
    if x2 < 0 then
      some G
    else
      (f_Model_isAlive G x2 (gi G 81 55)).bind fun q1 =>
      gd (0 ≤ x2 ∧ x2 < 32) <|
      wG (si G 119 x2.toNat q1) fun G1 =>
      gd (0 ≤ x2 ∧ x2 < 32) <|
      if gi G1 119 x2.toNat = 0 then
        (f_Model_hasChildren G1 x2 (-1)).bind fun q2 =>
        gd (0 ≤ x2 ∧ x2 < 32) <|
        wG (si G1 119 x2.toNat q2) fun G2 =>
        (f_Model_children G2 x2 (-1)).bind fun q3 =>
        gd (0 ≤ x2 ∧ x2 < 32) <|
        wG (sl q3 120 x2.toNat (gl q3 81 61)) fun G3 =>
        gd (0 ≤ x2 ∧ x2 < 32) <|
        wG (sl G3 121 x2.toNat (gl G3 81 62)) fun G4 =>
        f_Model_lines_L99 (f_Model_lines_L7 n) G4 x1 x2
      else
        if x2 = x1 then
          f_Model_lines_L50 (f_Model_lines_L7 n) G1 x1 x2 1 x2
        else
          f_Model_lines_L50 (f_Model_lines_L7 n) G1 x1 x2 0 x2
theorem s_Model_lines_L7 {X : XT} {r : GS} : ∀ (n : Nat) {G : GS} {x1 : Int} {x2 : Int}, wr x1 = x1 → wr x2 = x2 → f_Model_lines_L7 n G x1 x2 = some r → J X true 11 0 0 M_Model_lines (Rv r) NC 0 0 7 [(0, rf X 81), (1, vi x1), (2, vi x2)] [] G := by
  intro n
  induction n with
  | zero =>
    intro G x1 x2 hx1 hx2 h
    exact none_some h
  | succ n ih =>
    intro G x1 x2 hx1 hx2 h
    rw [f_Model_lines_L7] at h
    refine j_iloadn (k := 2) (D_Model_lines 5 rfl) rfl rfl ?_
    refine j_if_lt (tgt := 105) (D_Model_lines 6 rfl) rfl (hx2) (fun c1 => ?_) (fun c1 => ?_)
    · replace h := ite_t h c1
      exact j_vret (D_Model_lines 63 rfl) rfl rfl rfl (leafV h)
    · replace h := ite_f h c1
      refine j_aloadn (k := 0) (D_Model_lines 7 rfl) rfl rfl ?_
      refine j_getR rfl fa_Model_125 kd_81 lc_81 (by decide) rfl fx_81_58 (by decide) (D_Model_lines 8 rfl) ?_
      refine j_iloadn (k := 2) (D_Model_lines 9 rfl) rfl rfl ?_
      refine j_aloadn (k := 0) (D_Model_lines 10 rfl) rfl rfl ?_
      refine j_iloadn (k := 2) (D_Model_lines 11 rfl) rfl rfl ?_
      refine j_aloadn (k := 0) (D_Model_lines 12 rfl) rfl rfl ?_
      refine j_getI rfl fa_Model_420 kd_81 lc_81 (by decide) rfl (D_Model_lines 13 rfl) ?_
      obtain ⟨q1, e1, h⟩ := Option.bind_eq_some_iff.mp h
      refine j_cVz (c_Model_isAlive (hx2) (wr_gi _ _ _) e1) rfl lk_Model_423 mok_Model_isAlive kd_81 lc_81 rfl (by decide) rfl rfl (Nat.le_of_ble_eq_true rfl) (D_Model_lines 14 rfl) (fun w1 bw1 => ?_)
      have g1 := gd_c h
      replace h := gd_s h
      refine j_zast (NI := 32) (D_Model_lines 15 rfl) kd_119 lc_119 (hx2) rfl g1.1 g1.2 (w1) bw1 ?_
      refine j_gen (fun G1 e2 => ?_)
      replace h := wG_at h e2
      refine j_aloadn (k := 0) (D_Model_lines 16 rfl) rfl rfl ?_
      refine j_getR rfl fa_Model_125 kd_81 lc_81 (by decide) rfl fx_81_58 (by decide) (D_Model_lines 17 rfl) ?_
      refine j_iloadn (k := 2) (D_Model_lines 18 rfl) rfl rfl ?_
      have g2 := gd_c h
      replace h := gd_s h
      refine j_zald (NI := 32) (D_Model_lines 19 rfl) kd_119 lc_119 (hx2) rfl g2.1 g2.2 ?_
      refine j_if_eq (tgt := 61) (D_Model_lines 20 rfl) rfl (wr_gi _ _ _) (fun c2 => ?_) (fun c2 => ?_)
      · replace h := ite_t h c2
        refine j_aloadn (k := 0) (D_Model_lines 37 rfl) rfl rfl ?_
        refine j_getR rfl fa_Model_125 kd_81 lc_81 (by decide) rfl fx_81_58 (by decide) (D_Model_lines 38 rfl) ?_
        refine j_iloadn (k := 2) (D_Model_lines 39 rfl) rfl rfl ?_
        refine j_aloadn (k := 0) (D_Model_lines 40 rfl) rfl rfl ?_
        refine j_iloadn (k := 2) (D_Model_lines 41 rfl) rfl rfl ?_
        refine j_iconst (v := (-1)) (D_Model_lines 42 rfl) rfl ?_
        obtain ⟨q2, e3, h⟩ := Option.bind_eq_some_iff.mp h
        refine j_cVz (c_Model_hasChildren (hx2) (wr_lit rfl) e3) rfl lk_Model_426 mok_Model_hasChildren kd_81 lc_81 rfl (by decide) rfl rfl (Nat.le_of_ble_eq_true rfl) (D_Model_lines 43 rfl) (fun w2 bw2 => ?_)
        have g3 := gd_c h
        replace h := gd_s h
        refine j_zast (NI := 32) (D_Model_lines 44 rfl) kd_119 lc_119 (hx2) rfl g3.1 g3.2 (w2) bw2 ?_
        refine j_gen (fun G2 e4 => ?_)
        replace h := wG_at h e4
        refine j_aloadn (k := 0) (D_Model_lines 45 rfl) rfl rfl ?_
        refine j_iloadn (k := 2) (D_Model_lines 46 rfl) rfl rfl ?_
        refine j_iconst (v := (-1)) (D_Model_lines 47 rfl) rfl ?_
        obtain ⟨q3, e5, h⟩ := Option.bind_eq_some_iff.mp h
        refine j_cVv (c_Model_children (hx2) (wr_lit rfl) e5) rfl lk_Model_429 mok_Model_children kd_81 lc_81 rfl (by decide) rfl rfl (Nat.le_of_ble_eq_true rfl) (D_Model_lines 48 rfl) ?_
        refine j_aloadn (k := 0) (D_Model_lines 49 rfl) rfl rfl ?_
        refine j_getR rfl fa_Model_129 kd_81 lc_81 (by decide) rfl fx_81_59 (by decide) (D_Model_lines 50 rfl) ?_
        refine j_iloadn (k := 2) (D_Model_lines 51 rfl) rfl rfl ?_
        refine j_aloadn (k := 0) (D_Model_lines 52 rfl) rfl rfl ?_
        refine j_getJ rfl fa_Model_432 kd_81 lc_81 (by decide) rfl (D_Model_lines 53 rfl) ?_
        have g4 := gd_c h
        replace h := gd_s h
        refine j_last (NI := 32) (D_Model_lines 54 rfl) kd_120 lc_120 (hx2) rfl g4.1 g4.2 ?_
        refine j_gen (fun G3 e6 => ?_)
        replace h := wG_at h e6
        refine j_aloadn (k := 0) (D_Model_lines 55 rfl) rfl rfl ?_
        refine j_getR rfl fa_Model_133 kd_81 lc_81 (by decide) rfl fx_81_60 (by decide) (D_Model_lines 56 rfl) ?_
        refine j_iloadn (k := 2) (D_Model_lines 57 rfl) rfl rfl ?_
        refine j_aloadn (k := 0) (D_Model_lines 58 rfl) rfl rfl ?_
        refine j_getJ rfl fa_Model_436 kd_81 lc_81 (by decide) rfl (D_Model_lines 59 rfl) ?_
        have g5 := gd_c h
        replace h := gd_s h
        refine j_last (NI := 32) (D_Model_lines 60 rfl) kd_121 lc_121 (hx2) rfl g5.1 g5.2 ?_
        refine j_gen (fun G4 e7 => ?_)
        replace h := wG_at h e7
        refine j_loc [0, 1, 2] rfl ?_
        exact s_Model_lines_L99 ih (hx1) (hx2) h
      · replace h := ite_f h c2
        refine j_aloadn (k := 0) (D_Model_lines 21 rfl) rfl rfl ?_
        refine j_getR rfl fa_Model_129 kd_81 lc_81 (by decide) rfl fx_81_59 (by decide) (D_Model_lines 22 rfl) ?_
        refine j_iloadn (k := 2) (D_Model_lines 23 rfl) rfl rfl ?_
        refine j_iloadn (k := 2) (D_Model_lines 24 rfl) rfl rfl ?_
        refine j_iloadn (k := 1) (D_Model_lines 25 rfl) rfl rfl ?_
        refine j_ic_ne (tgt := 49) (D_Model_lines 26 rfl) rfl (hx2) (hx1) (fun c3 => ?_) (fun c3 => ?_)
        · replace h := ite_f h c3
          refine j_lconst (v := 0) (D_Model_lines 29 rfl) rfl ?_
          refine j_loc [0, 1, 2] rfl ?_
          exact s_Model_lines_L50 ih (hx1) (hx2) (wl_lit rfl) (hx2) h
        · replace h := ite_t h c3
          refine j_lconst (v := 1) (D_Model_lines 27 rfl) rfl ?_
          refine j_goto (tgt := 50) (D_Model_lines 28 rfl) rfl ?_
          refine j_loc [0, 1, 2] rfl ?_
          exact s_Model_lines_L50 ih (hx1) (hx2) (wl_lit rfl) (hx2) h
def f_Model_lines (G : GS) (a1 : Int) : Option (GS) :=
  f_Model_lines_L7 FU G a1 (wr ((gi G 81 1) - 1))
theorem c_Model_lines {X : XT} {G : GS} {a1 : Int} {r : GS} (ha1 : wr a1 = a1) (h : f_Model_lines G a1 = some r) : Call X true 11 0 0 M_Model_lines [rf X 81, vi a1] NC G (Rv r) := by
  refine Call_of_J cw_Model_lines (by decide +kernel) (Nat.le_of_ble_eq_true rfl) ?_
  unfold f_Model_lines at h
  show J X true 11 0 0 M_Model_lines (Rv r) NC 0 0 0 [(0, rf X 81), (1, vi a1)] [] G
  refine j_aloadn (k := 0) (D_Model_lines 0 rfl) rfl rfl ?_
  refine j_getI rfl fa_Model_195 kd_81 lc_81 (by decide) rfl (D_Model_lines 1 rfl) ?_
  refine j_iconst (v := 1) (D_Model_lines 2 rfl) rfl ?_
  refine j_isub (D_Model_lines 3 rfl) ?_
  refine j_istoren (L' := [(2, vi (wr ((gi G 81 1) - 1))), (0, rf X 81), (1, vi a1)]) (D_Model_lines 4 rfl) rfl (rfl) (by decide) rfl ?_
  refine j_loc [1, 2, 0] rfl ?_
  exact s_Model_lines_L7 FU (ha1) (wr_wr _) h
abbrev M_Model_partOf : MI := (⟨"InquestHallModel", "partOf", "(IIII)V"⟩, prog_14_method_62_code, 7, none)
theorem cw_Model_partOf : Cond.code M_Model_partOf.1 M_Model_partOf.2.1 M_Model_partOf.2.2.1 M_Model_partOf.2.2.2 ∈ TS := mTS (List.mem_of_getElem? (i := 1806) (by decide +kernel)) (by decide +kernel)
theorem lk_Model_469 : Cond.methodLink "InquestHallModel" 469 M_Model_lines.1 ∈ TS := mTS (List.mem_of_getElem? (i := 1807) (by decide +kernel)) (by decide +kernel)
theorem mok_Model_lines : MOK M_Model_lines 1 := ⟨mTS (List.mem_of_getElem? (i := 1809) (by decide +kernel)) (by decide +kernel), mTS (List.mem_of_getElem? (i := 92) (by decide +kernel)) (by decide +kernel), mTS (List.mem_of_getElem? (i := 139) (by decide +kernel)) (by decide +kernel), cw_Model_lines, ⟨by decide, by decide, by decide +kernel⟩, by decide +kernel, by decide⟩
def tb_Model_partOf : List (Nat × Instr × Nat) := [(0, .aload_n 0, 1), (1, .aload_n 0, 1), (2, .getfield 25, 3), (5, .iload_n 1, 1), (6, .iaload, 1), (7, .putfield 420, 3), (10, .aload_n 0, 1), (11, .aload_n 0, 1), (12, .getfield 64, 3), (15, .iconst 4, 1), (16, .aload_n 0, 1), (17, .aload_n 0, 1), (18, .getfield 25, 3), (21, .iload_n 1, 1), (22, .iaload, 1), (23, .invokevirtual 417, 3), (26, .imul, 1), (27, .aload_n 0, 1), (28, .getfield 34, 3), (31, .iload_n 2, 1), (32, .iaload, 1), (33, .iadd, 1), (34, .iaload, 1), (35, .putfield 446, 3), (38, .aload_n 0, 1), (39, .iload 4, 2), (41, .putfield 460, 3), (44, .aload_n 0, 1), (45, .iload_n 3, 1), (46, .invokevirtual 469, 3), (49, .iload_n 1, 1), (50, .istore 5, 2), (52, .iconst (-1), 1), (53, .istore 6, 2), (55, .iload 5, 2), (57, .iconst (-1), 1), (58, .if_icmp .eq 30, 3), (61, .aload_n 0, 1), (62, .iload 5, 2), (64, .iload 6, 2), (66, .invokevirtual 426, 3), (69, .ifCond .ne 19, 3), (72, .iload 5, 2), (74, .istore 6, 2), (76, .aload_n 0, 1), (77, .getfield 13, 3), (80, .iload 5, 2), (82, .iaload, 1), (83, .istore 5, 2), (85, .goto (-30), 3), (88, .aload_n 0, 1), (89, .lconst 0, 1), (90, .putfield 432, 3), (93, .aload_n 0, 1), (94, .lconst 1, 1), (95, .putfield 436, 3), (98, .iload 5, 2), (100, .iconst (-1), 1), (101, .if_icmp .eq 11, 3), (104, .aload_n 0, 1), (105, .iload 5, 2), (107, .iload 6, 2), (109, .invokevirtual 429, 3), (112, .return_, 1)]
theorem D_Model_partOf (i : Nat) {pc len : Nat} {ins : Instr} (hi : tb_Model_partOf[i]? = some (pc, ins, len)) : decode M_Model_partOf.2.1 pc = .ok (ins, len) := dec_of (by decide +kernel) i hi
def f_Model_partOf_L88 (G : GS) (x5 : Int) (x6 : Int) : Option (GS) :=
  wG (sl G 81 61 0) fun G1 =>
  wG (sl G1 81 62 1) fun G2 =>
  if x5 = (-1) then
    some G2
  else
    (f_Model_children G2 x5 x6).bind fun q1 =>
    some q1
theorem s_Model_partOf_L88 {X : XT} {r : GS} : ∀ {G : GS} {x5 : Int} {x6 : Int}, wr x5 = x5 → wr x6 = x6 → f_Model_partOf_L88 G x5 x6 = some r → J X true 12 0 0 M_Model_partOf (Rv r) NC 0 0 88 [(0, rf X 81), (5, vi x5), (6, vi x6)] [] G := by
  intro G x5 x6 hx5 hx6 h
  unfold f_Model_partOf_L88 at h
  refine j_aloadn (k := 0) (D_Model_partOf 50 rfl) rfl rfl ?_
  refine j_lconst (v := 0) (D_Model_partOf 51 rfl) rfl ?_
  refine j_putJ rfl fa_Model_432 kd_81 lc_81 (by decide) rfl (D_Model_partOf 52 rfl) ?_
  refine j_gen (fun G1 e1 => ?_)
  replace h := wG_at h e1
  refine j_aloadn (k := 0) (D_Model_partOf 53 rfl) rfl rfl ?_
  refine j_lconst (v := 1) (D_Model_partOf 54 rfl) rfl ?_
  refine j_putJ rfl fa_Model_436 kd_81 lc_81 (by decide) rfl (D_Model_partOf 55 rfl) ?_
  refine j_gen (fun G2 e2 => ?_)
  replace h := wG_at h e2
  refine j_iload (k := 1) (D_Model_partOf 56 rfl) rfl ?_
  refine j_iconst (v := (-1)) (D_Model_partOf 57 rfl) rfl ?_
  refine j_ic_eq (tgt := 112) (D_Model_partOf 58 rfl) rfl (hx5) (wr_lit rfl) (fun c1 => ?_) (fun c1 => ?_)
  · replace h := ite_t h c1
    exact j_vret (D_Model_partOf 63 rfl) rfl rfl rfl (leafV h)
  · replace h := ite_f h c1
    refine j_aloadn (k := 0) (D_Model_partOf 59 rfl) rfl rfl ?_
    refine j_iload (k := 1) (D_Model_partOf 60 rfl) rfl ?_
    refine j_iload (k := 2) (D_Model_partOf 61 rfl) rfl ?_
    obtain ⟨q1, e3, h⟩ := Option.bind_eq_some_iff.mp h
    refine j_cVv (c_Model_children (hx5) (hx6) e3) rfl lk_Model_429 mok_Model_children kd_81 lc_81 rfl (by decide) rfl rfl (Nat.le_of_ble_eq_true rfl) (D_Model_partOf 62 rfl) ?_
    exact j_vret (D_Model_partOf 63 rfl) rfl rfl rfl (leafV h)
def f_Model_partOf_L55 : Nat → GS → Int → Int → Option (GS)
  | 0, _, _, _ => none
  | n + 1, G, x5, x6 =>
    if x5 = (-1) then
      f_Model_partOf_L88 G x5 x6
    else
      (f_Model_hasChildren G x5 x6).bind fun q1 =>
      if q1 = 0 then
        gd (0 ≤ x5 ∧ x5 < 32) <|
        f_Model_partOf_L55 n G (gi G 83 x5.toNat) x5
      else
        f_Model_partOf_L88 G x5 x6
theorem s_Model_partOf_L55 {X : XT} {r : GS} : ∀ (n : Nat) {G : GS} {x5 : Int} {x6 : Int}, wr x5 = x5 → wr x6 = x6 → f_Model_partOf_L55 n G x5 x6 = some r → J X true 12 0 0 M_Model_partOf (Rv r) NC 0 0 55 [(0, rf X 81), (5, vi x5), (6, vi x6)] [] G := by
  intro n
  induction n with
  | zero =>
    intro G x5 x6 hx5 hx6 h
    exact none_some h
  | succ n ih =>
    intro G x5 x6 hx5 hx6 h
    rw [f_Model_partOf_L55] at h
    refine j_iload (k := 1) (D_Model_partOf 34 rfl) rfl ?_
    refine j_iconst (v := (-1)) (D_Model_partOf 35 rfl) rfl ?_
    refine j_ic_eq (tgt := 88) (D_Model_partOf 36 rfl) rfl (hx5) (wr_lit rfl) (fun c1 => ?_) (fun c1 => ?_)
    · replace h := ite_t h c1
      refine j_loc [0, 1, 2] rfl ?_
      exact s_Model_partOf_L88 (hx5) (hx6) h
    · replace h := ite_f h c1
      refine j_aloadn (k := 0) (D_Model_partOf 37 rfl) rfl rfl ?_
      refine j_iload (k := 1) (D_Model_partOf 38 rfl) rfl ?_
      refine j_iload (k := 2) (D_Model_partOf 39 rfl) rfl ?_
      obtain ⟨q1, e1, h⟩ := Option.bind_eq_some_iff.mp h
      refine j_cVz (c_Model_hasChildren (hx5) (hx6) e1) rfl lk_Model_426 mok_Model_hasChildren kd_81 lc_81 rfl (by decide) rfl rfl (Nat.le_of_ble_eq_true rfl) (D_Model_partOf 40 rfl) (fun w1 bw1 => ?_)
      refine j_if_ne (tgt := 88) (D_Model_partOf 41 rfl) rfl (w1) (fun c2 => ?_) (fun c2 => ?_)
      · replace h := ite_f h c2
        refine j_loc [0, 1, 2] rfl ?_
        exact s_Model_partOf_L88 (hx5) (hx6) h
      · replace h := ite_t h c2
        refine j_iload (k := 1) (D_Model_partOf 42 rfl) rfl ?_
        refine j_istore (L' := [(6, vi x5), (0, rf X 81), (5, vi x5)]) (D_Model_partOf 43 rfl) (hx5) (by decide) rfl ?_
        refine j_aloadn (k := 1) (D_Model_partOf 44 rfl) rfl rfl ?_
        refine j_getR rfl fa_Model_13 kd_81 lc_81 (by decide) rfl fx_81_3 (by decide) (D_Model_partOf 45 rfl) ?_
        refine j_iload (k := 2) (D_Model_partOf 46 rfl) rfl ?_
        have g1 := gd_c h
        replace h := gd_s h
        refine j_iald (NI := 32) (D_Model_partOf 47 rfl) kd_83 lc_83 (hx5) rfl g1.1 g1.2 ?_
        refine j_istore (L' := [(5, vi (gi G 83 x5.toNat)), (6, vi x5), (0, rf X 81)]) (D_Model_partOf 48 rfl) (wr_gi _ _ _) (by decide) rfl ?_
        refine j_goto (tgt := 55) (D_Model_partOf 49 rfl) rfl ?_
        refine j_loc [2, 0, 1] rfl ?_
        exact ih (wr_gi _ _ _) (hx5) h
def f_Model_partOf (G : GS) (a1 : Int) (a2 : Int) (a3 : Int) (a4 : Int) : Option (GS) :=
  gd (0 ≤ a1 ∧ a1 < 32) <|
  wG (si G 81 55 (gi G 87 a1.toNat)) fun G1 =>
  gd (0 ≤ a1 ∧ a1 < 32) <|
  (f_Model_reignOn G1 (gi G1 87 a1.toNat)).bind fun q1 =>
  gd (0 ≤ a2 ∧ a2 < 12) <|
  gd (0 ≤ wr ((4 * q1) + (gi G1 90 a2.toNat)) ∧ wr ((4 * q1) + (gi G1 90 a2.toNat)) < 16) <|
  wG (si G1 81 56 (gi G1 100 (wr ((4 * q1) + (gi G1 90 a2.toNat))).toNat)) fun G2 =>
  wG (si G2 81 57 a4) fun G3 =>
  (f_Model_lines G3 a3).bind fun q2 =>
  f_Model_partOf_L55 FU q2 a1 (-1)
theorem c_Model_partOf {X : XT} {G : GS} {a1 : Int} {a2 : Int} {a3 : Int} {a4 : Int} {r : GS} (ha1 : wr a1 = a1) (ha2 : wr a2 = a2) (ha3 : wr a3 = a3) (ha4 : wr a4 = a4) (h : f_Model_partOf G a1 a2 a3 a4 = some r) : Call X true 12 0 0 M_Model_partOf [rf X 81, vi a1, vi a2, vi a3, vi a4] NC G (Rv r) := by
  refine Call_of_J cw_Model_partOf (by decide +kernel) (Nat.le_of_ble_eq_true rfl) ?_
  unfold f_Model_partOf at h
  show J X true 12 0 0 M_Model_partOf (Rv r) NC 0 0 0 [(0, rf X 81), (1, vi a1), (2, vi a2), (3, vi a3), (4, vi a4)] [] G
  refine j_aloadn (k := 0) (D_Model_partOf 0 rfl) rfl rfl ?_
  refine j_aloadn (k := 0) (D_Model_partOf 1 rfl) rfl rfl ?_
  refine j_getR rfl fa_Model_25 kd_81 lc_81 (by decide) rfl fx_81_7 (by decide) (D_Model_partOf 2 rfl) ?_
  refine j_iloadn (k := 1) (D_Model_partOf 3 rfl) rfl rfl ?_
  have g1 := gd_c h
  replace h := gd_s h
  refine j_iald (NI := 32) (D_Model_partOf 4 rfl) kd_87 lc_87 (ha1) rfl g1.1 g1.2 ?_
  refine j_putI rfl fa_Model_420 kd_81 lc_81 (by decide) rfl (D_Model_partOf 5 rfl) ?_
  refine j_gen (fun G1 e1 => ?_)
  replace h := wG_at h e1
  refine j_aloadn (k := 0) (D_Model_partOf 6 rfl) rfl rfl ?_
  refine j_aloadn (k := 0) (D_Model_partOf 7 rfl) rfl rfl ?_
  refine j_getR rfl fa_Model_64 kd_81 lc_81 (by decide) rfl fx_81_22 (by decide) (D_Model_partOf 8 rfl) ?_
  refine j_iconst (v := 4) (D_Model_partOf 9 rfl) rfl ?_
  refine j_aloadn (k := 0) (D_Model_partOf 10 rfl) rfl rfl ?_
  refine j_aloadn (k := 0) (D_Model_partOf 11 rfl) rfl rfl ?_
  refine j_getR rfl fa_Model_25 kd_81 lc_81 (by decide) rfl fx_81_7 (by decide) (D_Model_partOf 12 rfl) ?_
  refine j_iloadn (k := 1) (D_Model_partOf 13 rfl) rfl rfl ?_
  have g2 := gd_c h
  replace h := gd_s h
  refine j_iald (NI := 32) (D_Model_partOf 14 rfl) kd_87 lc_87 (ha1) rfl g2.1 g2.2 ?_
  obtain ⟨q1, e2, h⟩ := Option.bind_eq_some_iff.mp h
  refine j_cVi (c_Model_reignOn (wr_gi _ _ _) e2) rfl lk_Model_417 mok_Model_reignOn kd_81 lc_81 rfl (by decide) rfl rfl (Nat.le_of_ble_eq_true rfl) (D_Model_partOf 15 rfl) (fun w1 => ?_)
  refine j_imul (D_Model_partOf 16 rfl) ?_
  refine j_aloadn (k := 0) (D_Model_partOf 17 rfl) rfl rfl ?_
  refine j_getR rfl fa_Model_34 kd_81 lc_81 (by decide) rfl fx_81_11 (by decide) (D_Model_partOf 18 rfl) ?_
  refine j_iloadn (k := 2) (D_Model_partOf 19 rfl) rfl rfl ?_
  have g3 := gd_c h
  replace h := gd_s h
  refine j_iald (NI := 12) (D_Model_partOf 20 rfl) kd_90 lc_90 (ha2) rfl g3.1 g3.2 ?_
  refine j_iadd (D_Model_partOf 21 rfl) ?_
  have g4 := gd_c h
  replace h := gd_s h
  refine j_iald (NI := 16) (D_Model_partOf 22 rfl) kd_100 lc_100 (rfl) rfl g4.1 g4.2 ?_
  refine j_putI rfl fa_Model_446 kd_81 lc_81 (by decide) rfl (D_Model_partOf 23 rfl) ?_
  refine j_gen (fun G2 e3 => ?_)
  replace h := wG_at h e3
  refine j_aloadn (k := 0) (D_Model_partOf 24 rfl) rfl rfl ?_
  refine j_iload (k := 4) (D_Model_partOf 25 rfl) rfl ?_
  refine j_putI rfl fa_Model_460 kd_81 lc_81 (by decide) rfl (D_Model_partOf 26 rfl) ?_
  refine j_gen (fun G3 e4 => ?_)
  replace h := wG_at h e4
  refine j_aloadn (k := 0) (D_Model_partOf 27 rfl) rfl rfl ?_
  refine j_iloadn (k := 3) (D_Model_partOf 28 rfl) rfl rfl ?_
  obtain ⟨q2, e5, h⟩ := Option.bind_eq_some_iff.mp h
  refine j_cVv (c_Model_lines (ha3) e5) rfl lk_Model_469 mok_Model_lines kd_81 lc_81 rfl (by decide) rfl rfl (Nat.le_of_ble_eq_true rfl) (D_Model_partOf 29 rfl) ?_
  refine j_iloadn (k := 1) (D_Model_partOf 30 rfl) rfl rfl ?_
  refine j_istore (L' := [(5, vi a1), (0, rf X 81), (1, vi a1), (2, vi a2), (3, vi a3), (4, vi a4)]) (D_Model_partOf 31 rfl) (ha1) (by decide) rfl ?_
  refine j_iconst (v := (-1)) (D_Model_partOf 32 rfl) rfl ?_
  refine j_istore (L' := [(6, vi (-1)), (5, vi a1), (0, rf X 81), (1, vi a1), (2, vi a2), (3, vi a3), (4, vi a4)]) (D_Model_partOf 33 rfl) (wr_lit rfl) (by decide) rfl ?_
  refine j_loc [2, 1, 0] rfl ?_
  exact s_Model_partOf_L55 FU (ha1) (wr_lit rfl) h
abbrev M_Model_heirsOf : MI := (⟨"InquestHallModel", "heirsOf", "(II)I"⟩, prog_14_method_64_code, 5, (some .int))
theorem cw_Model_heirsOf : Cond.code M_Model_heirsOf.1 M_Model_heirsOf.2.1 M_Model_heirsOf.2.2.1 M_Model_heirsOf.2.2.2 ∈ TS := mTS (List.mem_of_getElem? (i := 1802) (by decide +kernel)) (by decide +kernel)
theorem lk_Model_472 : Cond.methodLink "InquestHallModel" 472 M_Model_partOf.1 ∈ TS := mTS (List.mem_of_getElem? (i := 1803) (by decide +kernel)) (by decide +kernel)
theorem mok_Model_partOf : MOK M_Model_partOf 4 := ⟨mTS (List.mem_of_getElem? (i := 1805) (by decide +kernel)) (by decide +kernel), mTS (List.mem_of_getElem? (i := 91) (by decide +kernel)) (by decide +kernel), mTS (List.mem_of_getElem? (i := 139) (by decide +kernel)) (by decide +kernel), cw_Model_partOf, ⟨by decide, by decide, by decide +kernel⟩, by decide +kernel, by decide⟩
def tb_Model_heirsOf : List (Nat × Instr × Nat) := [(0, .iconst 0, 1), (1, .istore_n 3, 1), (2, .iconst 0, 1), (3, .istore 4, 2), (5, .iload 4, 2), (7, .aload_n 0, 1), (8, .getfield 195, 3), (11, .if_icmp .ge 35, 3), (14, .aload_n 0, 1), (15, .iload_n 1, 1), (16, .iload_n 2, 1), (17, .iload 4, 2), (19, .iconst 0, 1), (20, .invokevirtual 472, 3), (23, .iload_n 3, 1), (24, .aload_n 0, 1), (25, .getfield 432, 3), (28, .lconst 0, 1), (29, .lcmp, 1), (30, .ifCond .le 7, 3), (33, .iconst 1, 1), (34, .goto 4, 3), (37, .iconst 0, 1), (38, .iadd, 1), (39, .istore_n 3, 1), (40, .iinc 4 1, 3), (43, .goto (-38), 3), (46, .iload_n 3, 1), (47, .ireturn, 1)]
theorem D_Model_heirsOf (i : Nat) {pc len : Nat} {ins : Instr} (hi : tb_Model_heirsOf[i]? = some (pc, ins, len)) : decode M_Model_heirsOf.2.1 pc = .ok (ins, len) := dec_of (by decide +kernel) i hi
def f_Model_heirsOf_L38 (k5 : GS → Int → Int → Int → Int → Option (Int × GS)) (G : GS) (x1 : Int) (x2 : Int) (x4 : Int) (s0 : Int) (s1 : Int) : Option (Int × GS) :=
  k5 G x1 x2 (wr (s1 + s0)) (wr (x4 + 1))
theorem s_Model_heirsOf_L38 {X : XT} {r : Int × GS} {k5 : GS → Int → Int → Int → Int → Option (Int × GS)} (hk5 : ∀ {G : GS} {x1 : Int} {x2 : Int} {x3 : Int} {x4 : Int} , wr x1 = x1 → wr x2 = x2 → wr x3 = x3 → wr x4 = x4 → k5 G x1 x2 x3 x4 = some r → J X true 13 0 0 M_Model_heirsOf (Ri r.1 r.2) NC 0 0 5 [(0, rf X 81), (1, vi x1), (2, vi x2), (3, vi x3), (4, vi x4)] [] G) : ∀ {G : GS} {x1 : Int} {x2 : Int} {x4 : Int} {s0 : Int} {s1 : Int}, wr x1 = x1 → wr x2 = x2 → wr x4 = x4 → wr s0 = s0 → wr s1 = s1 → f_Model_heirsOf_L38 k5 G x1 x2 x4 s0 s1 = some r → J X true 13 0 0 M_Model_heirsOf (Ri r.1 r.2) NC 0 0 38 [(0, rf X 81), (1, vi x1), (2, vi x2), (4, vi x4)] [vi s0, vi s1] G := by
  intro G x1 x2 x4 s0 s1 hx1 hx2 hx4 hs0 hs1 h
  unfold f_Model_heirsOf_L38 at h
  refine j_iadd (D_Model_heirsOf 23 rfl) ?_
  refine j_istoren (L' := [(3, vi (wr (s1 + s0))), (0, rf X 81), (1, vi x1), (2, vi x2), (4, vi x4)]) (D_Model_heirsOf 24 rfl) rfl (rfl) (by decide) rfl ?_
  refine j_iinc (k := 4) (L' := [(4, vi (wr (x4 + 1))), (3, vi (wr (s1 + s0))), (0, rf X 81), (1, vi x1), (2, vi x2)]) (D_Model_heirsOf 25 rfl) rfl rfl (by decide) rfl ?_
  refine j_goto (tgt := 5) (D_Model_heirsOf 26 rfl) rfl ?_
  refine j_loc [2, 3, 4, 1, 0] rfl ?_
  exact hk5 (hx1) (hx2) (wr_wr _) (wr_wr _) h
def f_Model_heirsOf_L5 : Nat → GS → Int → Int → Int → Int → Option (Int × GS)
  | 0, _, _, _, _, _ => none
  | n + 1, G, x1, x2, x3, x4 =>
    if gi G 81 1 ≤ x4 then
      some (x3, G)
    else
      (f_Model_partOf G x1 x2 x4 0).bind fun q1 =>
      if lc (gl q1 81 61) 0 ≤ 0 then
        f_Model_heirsOf_L38 (f_Model_heirsOf_L5 n) q1 x1 x2 x4 0 x3
      else
        f_Model_heirsOf_L38 (f_Model_heirsOf_L5 n) q1 x1 x2 x4 1 x3
theorem s_Model_heirsOf_L5 {X : XT} {r : Int × GS} : ∀ (n : Nat) {G : GS} {x1 : Int} {x2 : Int} {x3 : Int} {x4 : Int}, wr x1 = x1 → wr x2 = x2 → wr x3 = x3 → wr x4 = x4 → f_Model_heirsOf_L5 n G x1 x2 x3 x4 = some r → J X true 13 0 0 M_Model_heirsOf (Ri r.1 r.2) NC 0 0 5 [(0, rf X 81), (1, vi x1), (2, vi x2), (3, vi x3), (4, vi x4)] [] G := by
  intro n
  induction n with
  | zero =>
    intro G x1 x2 x3 x4 hx1 hx2 hx3 hx4 h
    exact none_some h
  | succ n ih =>
    intro G x1 x2 x3 x4 hx1 hx2 hx3 hx4 h
    rw [f_Model_heirsOf_L5] at h
    refine j_iload (k := 4) (D_Model_heirsOf 4 rfl) rfl ?_
    refine j_aloadn (k := 0) (D_Model_heirsOf 5 rfl) rfl rfl ?_
    refine j_getI rfl fa_Model_195 kd_81 lc_81 (by decide) rfl (D_Model_heirsOf 6 rfl) ?_
    refine j_ic_ge (tgt := 46) (D_Model_heirsOf 7 rfl) rfl (hx4) (wr_gi _ _ _) (fun c1 => ?_) (fun c1 => ?_)
    · replace h := ite_t h c1
      refine j_iloadn (k := 3) (D_Model_heirsOf 27 rfl) rfl rfl ?_
      exact j_iret (D_Model_heirsOf 28 rfl) rfl (hx3) rfl rfl (leafI h (wr_n (hx3)))
    · replace h := ite_f h c1
      refine j_aloadn (k := 0) (D_Model_heirsOf 8 rfl) rfl rfl ?_
      refine j_iloadn (k := 1) (D_Model_heirsOf 9 rfl) rfl rfl ?_
      refine j_iloadn (k := 2) (D_Model_heirsOf 10 rfl) rfl rfl ?_
      refine j_iload (k := 4) (D_Model_heirsOf 11 rfl) rfl ?_
      refine j_iconst (v := 0) (D_Model_heirsOf 12 rfl) rfl ?_
      obtain ⟨q1, e1, h⟩ := Option.bind_eq_some_iff.mp h
      refine j_cVv (c_Model_partOf (hx1) (hx2) (hx4) (wr_lit rfl) e1) rfl lk_Model_472 mok_Model_partOf kd_81 lc_81 rfl (by decide) rfl rfl (Nat.le_of_ble_eq_true rfl) (D_Model_heirsOf 13 rfl) ?_
      refine j_iloadn (k := 3) (D_Model_heirsOf 14 rfl) rfl rfl ?_
      refine j_aloadn (k := 0) (D_Model_heirsOf 15 rfl) rfl rfl ?_
      refine j_getJ rfl fa_Model_432 kd_81 lc_81 (by decide) rfl (D_Model_heirsOf 16 rfl) ?_
      refine j_lconst (v := 0) (D_Model_heirsOf 17 rfl) rfl ?_
      refine j_lcmp (D_Model_heirsOf 18 rfl) ?_
      refine j_if_le (tgt := 37) (D_Model_heirsOf 19 rfl) rfl (wr_lc _ _) (fun c2 => ?_) (fun c2 => ?_)
      · replace h := ite_t h c2
        refine j_iconst (v := 0) (D_Model_heirsOf 22 rfl) rfl ?_
        refine j_loc [0, 1, 2, 4] rfl ?_
        exact s_Model_heirsOf_L38 ih (hx1) (hx2) (hx4) (wr_lit rfl) (hx3) h
      · replace h := ite_f h c2
        refine j_iconst (v := 1) (D_Model_heirsOf 20 rfl) rfl ?_
        refine j_goto (tgt := 38) (D_Model_heirsOf 21 rfl) rfl ?_
        refine j_loc [0, 1, 2, 4] rfl ?_
        exact s_Model_heirsOf_L38 ih (hx1) (hx2) (hx4) (wr_lit rfl) (hx3) h
def f_Model_heirsOf (G : GS) (a1 : Int) (a2 : Int) : Option (Int × GS) :=
  f_Model_heirsOf_L5 FU G a1 a2 0 0
theorem c_Model_heirsOf {X : XT} {G : GS} {a1 : Int} {a2 : Int} {r : Int × GS} (ha1 : wr a1 = a1) (ha2 : wr a2 = a2) (h : f_Model_heirsOf G a1 a2 = some r) : Call X true 13 0 0 M_Model_heirsOf [rf X 81, vi a1, vi a2] NC G (Ri r.1 r.2) := by
  refine Call_of_J cw_Model_heirsOf (by decide +kernel) (Nat.le_of_ble_eq_true rfl) ?_
  unfold f_Model_heirsOf at h
  show J X true 13 0 0 M_Model_heirsOf (Ri r.1 r.2) NC 0 0 0 [(0, rf X 81), (1, vi a1), (2, vi a2)] [] G
  refine j_iconst (v := 0) (D_Model_heirsOf 0 rfl) rfl ?_
  refine j_istoren (L' := [(3, vi 0), (0, rf X 81), (1, vi a1), (2, vi a2)]) (D_Model_heirsOf 1 rfl) rfl (wr_lit rfl) (by decide) rfl ?_
  refine j_iconst (v := 0) (D_Model_heirsOf 2 rfl) rfl ?_
  refine j_istore (L' := [(4, vi 0), (3, vi 0), (0, rf X 81), (1, vi a1), (2, vi a2)]) (D_Model_heirsOf 3 rfl) (wr_lit rfl) (by decide) rfl ?_
  refine j_loc [2, 3, 4, 1, 0] rfl ?_
  exact s_Model_heirsOf_L5 FU (ha1) (ha2) (wr_lit rfl) (wr_lit rfl) h
abbrev M_Model_heirs : MI := (⟨"InquestHallModel", "heirs", "(II)I"⟩, prog_14_method_65_code, 3, (some .int))
theorem cw_Model_heirs : Cond.code M_Model_heirs.1 M_Model_heirs.2.1 M_Model_heirs.2.2.1 M_Model_heirs.2.2.2 ∈ TS := mTS (List.mem_of_getElem? (i := 1794) (by decide +kernel)) (by decide +kernel)
theorem lk_Model_475 : Cond.methodLink "InquestHallModel" 475 M_Model_canAsk.1 ∈ TS := mTS (List.mem_of_getElem? (i := 1795) (by decide +kernel)) (by decide +kernel)
theorem mok_Model_canAsk : MOK M_Model_canAsk 2 := ⟨mTS (List.mem_of_getElem? (i := 1797) (by decide +kernel)) (by decide +kernel), mTS (List.mem_of_getElem? (i := 89) (by decide +kernel)) (by decide +kernel), mTS (List.mem_of_getElem? (i := 139) (by decide +kernel)) (by decide +kernel), cw_Model_canAsk, ⟨by decide, by decide, by decide +kernel⟩, by decide +kernel, by decide⟩
theorem lk_Model_478 : Cond.methodLink "InquestHallModel" 478 M_Model_heirsOf.1 ∈ TS := mTS (List.mem_of_getElem? (i := 1799) (by decide +kernel)) (by decide +kernel)
theorem mok_Model_heirsOf : MOK M_Model_heirsOf 2 := ⟨mTS (List.mem_of_getElem? (i := 1801) (by decide +kernel)) (by decide +kernel), mTS (List.mem_of_getElem? (i := 90) (by decide +kernel)) (by decide +kernel), mTS (List.mem_of_getElem? (i := 139) (by decide +kernel)) (by decide +kernel), cw_Model_heirsOf, ⟨by decide, by decide, by decide +kernel⟩, by decide +kernel, by decide⟩
def tb_Model_heirs : List (Nat × Instr × Nat) := [(0, .aload_n 0, 1), (1, .iload_n 1, 1), (2, .iload_n 2, 1), (3, .invokevirtual 475, 3), (6, .ifCond .eq 12, 3), (9, .aload_n 0, 1), (10, .iload_n 1, 1), (11, .iload_n 2, 1), (12, .invokevirtual 478, 3), (15, .goto 4, 3), (18, .iconst (-1), 1), (19, .ireturn, 1)]
theorem D_Model_heirs (i : Nat) {pc len : Nat} {ins : Instr} (hi : tb_Model_heirs[i]? = some (pc, ins, len)) : decode M_Model_heirs.2.1 pc = .ok (ins, len) := dec_of (by decide +kernel) i hi
def f_Model_heirs (G : GS) (a1 : Int) (a2 : Int) : Option (Int × GS) :=
  (f_Model_canAsk G a1 a2).bind fun q1 =>
  if q1 = 0 then
    some ((-1), G)
  else
    (f_Model_heirsOf G a1 a2).bind fun q2 =>
    some (q2.1, q2.2)
theorem c_Model_heirs {X : XT} {G : GS} {a1 : Int} {a2 : Int} {r : Int × GS} (ha1 : wr a1 = a1) (ha2 : wr a2 = a2) (h : f_Model_heirs G a1 a2 = some r) : Call X true 14 0 0 M_Model_heirs [rf X 81, vi a1, vi a2] NC G (Ri r.1 r.2) := by
  refine Call_of_J cw_Model_heirs (by decide +kernel) (Nat.le_of_ble_eq_true rfl) ?_
  unfold f_Model_heirs at h
  show J X true 14 0 0 M_Model_heirs (Ri r.1 r.2) NC 0 0 0 [(0, rf X 81), (1, vi a1), (2, vi a2)] [] G
  refine j_aloadn (k := 0) (D_Model_heirs 0 rfl) rfl rfl ?_
  refine j_iloadn (k := 1) (D_Model_heirs 1 rfl) rfl rfl ?_
  refine j_iloadn (k := 2) (D_Model_heirs 2 rfl) rfl rfl ?_
  obtain ⟨q1, e1, h⟩ := Option.bind_eq_some_iff.mp h
  refine j_cVz (c_Model_canAsk (ha1) (ha2) e1) rfl lk_Model_475 mok_Model_canAsk kd_81 lc_81 rfl (by decide) rfl rfl (Nat.le_of_ble_eq_true rfl) (D_Model_heirs 3 rfl) (fun w1 bw1 => ?_)
  refine j_if_eq (tgt := 18) (D_Model_heirs 4 rfl) rfl (w1) (fun c1 => ?_) (fun c1 => ?_)
  · replace h := ite_t h c1
    refine j_iconst (v := (-1)) (D_Model_heirs 10 rfl) rfl ?_
    exact j_iret (D_Model_heirs 11 rfl) rfl (wr_lit rfl) rfl rfl (leafI h (wr_n (wr_lit rfl)))
  · replace h := ite_f h c1
    refine j_aloadn (k := 0) (D_Model_heirs 5 rfl) rfl rfl ?_
    refine j_iloadn (k := 1) (D_Model_heirs 6 rfl) rfl rfl ?_
    refine j_iloadn (k := 2) (D_Model_heirs 7 rfl) rfl rfl ?_
    obtain ⟨q2, e2, h⟩ := Option.bind_eq_some_iff.mp h
    refine j_cVi (c_Model_heirsOf (ha1) (ha2) e2) rfl lk_Model_478 mok_Model_heirsOf kd_81 lc_81 rfl (by decide) rfl rfl (Nat.le_of_ble_eq_true rfl) (D_Model_heirs 8 rfl) (fun w2 => ?_)
    refine j_goto (tgt := 19) (D_Model_heirs 9 rfl) rfl ?_
    exact j_iret (D_Model_heirs 11 rfl) rfl (w2) rfl rfl (leafI h (wr_n (w2)))
abbrev M_Descent_mayBeChosen : MI := (⟨"InquestHall$Descent", "mayBeChosen", "(II)Z"⟩, prog_2_method_16_code, 5, (some .boolean))
theorem cw_Descent_mayBeChosen : Cond.code M_Descent_mayBeChosen.1 M_Descent_mayBeChosen.2.1 M_Descent_mayBeChosen.2.2.1 M_Descent_mayBeChosen.2.2.2 ∈ TS := mTS (List.mem_of_getElem? (i := 995) (by decide +kernel)) (by decide +kernel)
theorem fa_Descent_112 : FA "InquestHall$Descent" 112 1 4 true (.array .int) := ⟨_, _, _, _, ok_People, by decide, mTS (List.mem_of_getElem? (i := 169) (by decide +kernel)) (by decide +kernel), rfl, rfl⟩
def tb_Descent_mayBeChosen : List (Nat × Instr × Nat) := [(0, .iconst 0, 1), (1, .istore_n 3, 1), (2, .iload_n 3, 1), (3, .aload_n 0, 1), (4, .getfield 27, 3), (7, .getfield 31, 3), (10, .if_icmp .ge 93, 3), (13, .iload_n 2, 1), (14, .iconst 1, 1), (15, .iload_n 3, 1), (16, .ishl, 1), (17, .iand, 1), (18, .ifCond .eq 79, 3), (21, .iload_n 3, 1), (22, .iload_n 1, 1), (23, .if_icmp .eq 74, 3), (26, .aload_n 0, 1), (27, .getfield 38, 3), (30, .ifCond .ne 32, 3), (33, .aload_n 0, 1), (34, .getfield 27, 3), (37, .getfield 68, 3), (40, .iload_n 1, 1), (41, .iaload, 1), (42, .aload_n 0, 1), (43, .getfield 27, 3), (46, .getfield 112, 3), (49, .iload_n 3, 1), (50, .iaload, 1), (51, .if_icmp .gt 7, 3), (54, .iconst 1, 1), (55, .goto 33, 3), (58, .iconst 0, 1), (59, .goto 29, 3), (62, .aload_n 0, 1), (63, .getfield 27, 3), (66, .getfield 112, 3), (69, .iload_n 1, 1), (70, .iaload, 1), (71, .aload_n 0, 1), (72, .getfield 27, 3), (75, .getfield 68, 3), (78, .iload_n 3, 1), (79, .iaload, 1), (80, .if_icmp .lt 7, 3), (83, .iconst 1, 1), (84, .goto 4, 3), (87, .iconst 0, 1), (88, .istore 4, 2), (90, .iload 4, 2), (92, .ifCond .ne 5, 3), (95, .iconst 0, 1), (96, .ireturn, 1), (97, .iinc 3 1, 3), (100, .goto (-98), 3), (103, .iconst 1, 1), (104, .ireturn, 1)]
theorem D_Descent_mayBeChosen (i : Nat) {pc len : Nat} {ins : Instr} (hi : tb_Descent_mayBeChosen[i]? = some (pc, ins, len)) : decode M_Descent_mayBeChosen.2.1 pc = .ok (ins, len) := dec_of (by decide +kernel) i hi
def f_Descent_mayBeChosen_L97 (G : GS) (k2 : Int → Int → Int → Option (Int)) (x1 : Int) (x2 : Int) (x3 : Int) : Option (Int) :=
  k2 x1 x2 (wr (x3 + 1))
theorem s_Descent_mayBeChosen_L97 {X : XT} {G : GS} {r : Int} {k2 : Int → Int → Int → Option (Int)} (hk2 : ∀ {x1 : Int} {x2 : Int} {x3 : Int} , wr x1 = x1 → wr x2 = x2 → wr x3 = x3 → k2 x1 x2 x3 = some r → J X true 6 0 0 M_Descent_mayBeChosen (Rz r G) NC 0 0 2 [(0, rf X 30), (1, vi x1), (2, vi x2), (3, vi x3)] [] G) : ∀ {x1 : Int} {x2 : Int} {x3 : Int}, wr x1 = x1 → wr x2 = x2 → wr x3 = x3 → f_Descent_mayBeChosen_L97 G k2 x1 x2 x3 = some r → J X true 6 0 0 M_Descent_mayBeChosen (Rz r G) NC 0 0 97 [(0, rf X 30), (1, vi x1), (2, vi x2), (3, vi x3)] [] G := by
  intro x1 x2 x3 hx1 hx2 hx3 h
  unfold f_Descent_mayBeChosen_L97 at h
  refine j_iinc (k := 3) (L' := [(3, vi (wr (x3 + 1))), (0, rf X 30), (1, vi x1), (2, vi x2)]) (D_Descent_mayBeChosen 53 rfl) rfl rfl (by decide) rfl ?_
  refine j_goto (tgt := 2) (D_Descent_mayBeChosen 54 rfl) rfl ?_
  refine j_loc [1, 2, 3, 0] rfl ?_
  exact hk2 (hx1) (hx2) (wr_wr _) h
def f_Descent_mayBeChosen_L88 (G : GS) (k2 : Int → Int → Int → Option (Int)) (x1 : Int) (x2 : Int) (x3 : Int) (s0 : Int) : Option (Int) :=
  if s0 = 0 then
    some 0
  else
    f_Descent_mayBeChosen_L97 G k2 x1 x2 x3
theorem s_Descent_mayBeChosen_L88 {X : XT} {G : GS} {r : Int} {k2 : Int → Int → Int → Option (Int)} (hk2 : ∀ {x1 : Int} {x2 : Int} {x3 : Int} , wr x1 = x1 → wr x2 = x2 → wr x3 = x3 → k2 x1 x2 x3 = some r → J X true 6 0 0 M_Descent_mayBeChosen (Rz r G) NC 0 0 2 [(0, rf X 30), (1, vi x1), (2, vi x2), (3, vi x3)] [] G) : ∀ {x1 : Int} {x2 : Int} {x3 : Int} {s0 : Int}, wr x1 = x1 → wr x2 = x2 → wr x3 = x3 → wr s0 = s0 → f_Descent_mayBeChosen_L88 G k2 x1 x2 x3 s0 = some r → J X true 6 0 0 M_Descent_mayBeChosen (Rz r G) NC 0 0 88 [(0, rf X 30), (1, vi x1), (2, vi x2), (3, vi x3)] [vi s0] G := by
  intro x1 x2 x3 s0 hx1 hx2 hx3 hs0 h
  unfold f_Descent_mayBeChosen_L88 at h
  refine j_istore (L' := [(4, vi s0), (0, rf X 30), (1, vi x1), (2, vi x2), (3, vi x3)]) (D_Descent_mayBeChosen 48 rfl) (hs0) (by decide) rfl ?_
  refine j_iload (k := 0) (D_Descent_mayBeChosen 49 rfl) rfl ?_
  refine j_if_ne (tgt := 97) (D_Descent_mayBeChosen 50 rfl) rfl (hs0) (fun c1 => ?_) (fun c1 => ?_)
  · replace h := ite_f h c1
    refine j_loc [1, 2, 3, 4] rfl ?_
    exact s_Descent_mayBeChosen_L97 hk2 (hx1) (hx2) (hx3) h
  · replace h := ite_t h c1
    refine j_iconst (v := 0) (D_Descent_mayBeChosen 51 rfl) rfl ?_
    exact j_zret (D_Descent_mayBeChosen 52 rfl) rfl (wr_lit rfl) (nz_01 (by decide)) rfl rfl (leafZo h (wr_n (wr_lit rfl)) (by decide))
def f_Descent_mayBeChosen_L2 (G : GS) : Nat → Int → Int → Int → Option (Int)
  | 0, _, _, _ => none
  | n + 1, x1, x2, x3 =>
    if gi G 1 7 ≤ x3 then
      some 1
    else
      if bAnd x2 (bShl 1 x3) = 0 then
        f_Descent_mayBeChosen_L97 G (f_Descent_mayBeChosen_L2 G n) x1 x2 x3
      else
        if x3 = x1 then
          f_Descent_mayBeChosen_L97 G (f_Descent_mayBeChosen_L2 G n) x1 x2 x3
        else
          if gi G 30 2 = 0 then
            gd (0 ≤ x1 ∧ x1 < 32) <|
            gd (0 ≤ x3 ∧ x3 < 32) <|
            if gi G 6 x3.toNat < gi G 5 x1.toNat then
              f_Descent_mayBeChosen_L88 G (f_Descent_mayBeChosen_L2 G n) x1 x2 x3 0
            else
              f_Descent_mayBeChosen_L88 G (f_Descent_mayBeChosen_L2 G n) x1 x2 x3 1
          else
            gd (0 ≤ x1 ∧ x1 < 32) <|
            gd (0 ≤ x3 ∧ x3 < 32) <|
            if gi G 6 x1.toNat < gi G 5 x3.toNat then
              f_Descent_mayBeChosen_L88 G (f_Descent_mayBeChosen_L2 G n) x1 x2 x3 0
            else
              f_Descent_mayBeChosen_L88 G (f_Descent_mayBeChosen_L2 G n) x1 x2 x3 1
theorem s_Descent_mayBeChosen_L2 {X : XT} {G : GS} {r : Int} : ∀ (n : Nat) {x1 : Int} {x2 : Int} {x3 : Int}, wr x1 = x1 → wr x2 = x2 → wr x3 = x3 → f_Descent_mayBeChosen_L2 G n x1 x2 x3 = some r → J X true 6 0 0 M_Descent_mayBeChosen (Rz r G) NC 0 0 2 [(0, rf X 30), (1, vi x1), (2, vi x2), (3, vi x3)] [] G := by
  intro n
  induction n with
  | zero =>
    intro x1 x2 x3 hx1 hx2 hx3 h
    exact none_some h
  | succ n ih =>
    intro x1 x2 x3 hx1 hx2 hx3 h
    rw [f_Descent_mayBeChosen_L2] at h
    refine j_iloadn (k := 3) (D_Descent_mayBeChosen 2 rfl) rfl rfl ?_
    refine j_aloadn (k := 0) (D_Descent_mayBeChosen 3 rfl) rfl rfl ?_
    refine j_getR rfl fa_Descent_27 kd_30 lc_30 (by decide) rfl fx_30_0 (by decide) (D_Descent_mayBeChosen 4 rfl) ?_
    refine j_getI rfl fa_Descent_31 kd_1 lc_1 (by decide) rfl (D_Descent_mayBeChosen 5 rfl) ?_
    refine j_ic_ge (tgt := 103) (D_Descent_mayBeChosen 6 rfl) rfl (hx3) (wr_gi _ _ _) (fun c1 => ?_) (fun c1 => ?_)
    · replace h := ite_t h c1
      refine j_iconst (v := 1) (D_Descent_mayBeChosen 55 rfl) rfl ?_
      exact j_zret (D_Descent_mayBeChosen 56 rfl) rfl (wr_lit rfl) (nz_01 (by decide)) rfl rfl (leafZo h (wr_n (wr_lit rfl)) (by decide))
    · replace h := ite_f h c1
      refine j_iloadn (k := 2) (D_Descent_mayBeChosen 7 rfl) rfl rfl ?_
      refine j_iconst (v := 1) (D_Descent_mayBeChosen 8 rfl) rfl ?_
      refine j_iloadn (k := 3) (D_Descent_mayBeChosen 9 rfl) rfl rfl ?_
      refine j_ishl (D_Descent_mayBeChosen 10 rfl) ?_
      refine j_iand (D_Descent_mayBeChosen 11 rfl) ?_
      refine j_if_eq (tgt := 97) (D_Descent_mayBeChosen 12 rfl) rfl (wr_bAnd _ _) (fun c2 => ?_) (fun c2 => ?_)
      · replace h := ite_t h c2
        refine j_loc [0, 1, 2, 3] rfl ?_
        exact s_Descent_mayBeChosen_L97 ih (hx1) (hx2) (hx3) h
      · replace h := ite_f h c2
        refine j_iloadn (k := 3) (D_Descent_mayBeChosen 13 rfl) rfl rfl ?_
        refine j_iloadn (k := 1) (D_Descent_mayBeChosen 14 rfl) rfl rfl ?_
        refine j_ic_eq (tgt := 97) (D_Descent_mayBeChosen 15 rfl) rfl (hx3) (hx1) (fun c3 => ?_) (fun c3 => ?_)
        · replace h := ite_t h c3
          refine j_loc [0, 1, 2, 3] rfl ?_
          exact s_Descent_mayBeChosen_L97 ih (hx1) (hx2) (hx3) h
        · replace h := ite_f h c3
          refine j_aloadn (k := 0) (D_Descent_mayBeChosen 16 rfl) rfl rfl ?_
          refine j_getI rfl fa_Descent_38 kd_30 lc_30 (by decide) rfl (D_Descent_mayBeChosen 17 rfl) ?_
          refine j_if_ne (tgt := 62) (D_Descent_mayBeChosen 18 rfl) rfl (wr_gi _ _ _) (fun c4 => ?_) (fun c4 => ?_)
          · replace h := ite_f h c4
            refine j_aloadn (k := 0) (D_Descent_mayBeChosen 34 rfl) rfl rfl ?_
            refine j_getR rfl fa_Descent_27 kd_30 lc_30 (by decide) rfl fx_30_0 (by decide) (D_Descent_mayBeChosen 35 rfl) ?_
            refine j_getR rfl fa_Descent_112 kd_1 lc_1 (by decide) rfl fx_1_4 (by decide) (D_Descent_mayBeChosen 36 rfl) ?_
            refine j_iloadn (k := 1) (D_Descent_mayBeChosen 37 rfl) rfl rfl ?_
            have g1 := gd_c h
            replace h := gd_s h
            refine j_iald (NI := 32) (D_Descent_mayBeChosen 38 rfl) kd_6 lc_6 (hx1) rfl g1.1 g1.2 ?_
            refine j_aloadn (k := 0) (D_Descent_mayBeChosen 39 rfl) rfl rfl ?_
            refine j_getR rfl fa_Descent_27 kd_30 lc_30 (by decide) rfl fx_30_0 (by decide) (D_Descent_mayBeChosen 40 rfl) ?_
            refine j_getR rfl fa_Descent_68 kd_1 lc_1 (by decide) rfl fx_1_3 (by decide) (D_Descent_mayBeChosen 41 rfl) ?_
            refine j_iloadn (k := 3) (D_Descent_mayBeChosen 42 rfl) rfl rfl ?_
            have g2 := gd_c h
            replace h := gd_s h
            refine j_iald (NI := 32) (D_Descent_mayBeChosen 43 rfl) kd_5 lc_5 (hx3) rfl g2.1 g2.2 ?_
            refine j_ic_lt (tgt := 87) (D_Descent_mayBeChosen 44 rfl) rfl (wr_gi _ _ _) (wr_gi _ _ _) (fun c5 => ?_) (fun c5 => ?_)
            · replace h := ite_t h c5
              refine j_iconst (v := 0) (D_Descent_mayBeChosen 47 rfl) rfl ?_
              refine j_loc [0, 1, 2, 3] rfl ?_
              exact s_Descent_mayBeChosen_L88 ih (hx1) (hx2) (hx3) (wr_lit rfl) h
            · replace h := ite_f h c5
              refine j_iconst (v := 1) (D_Descent_mayBeChosen 45 rfl) rfl ?_
              refine j_goto (tgt := 88) (D_Descent_mayBeChosen 46 rfl) rfl ?_
              refine j_loc [0, 1, 2, 3] rfl ?_
              exact s_Descent_mayBeChosen_L88 ih (hx1) (hx2) (hx3) (wr_lit rfl) h
          · replace h := ite_t h c4
            refine j_aloadn (k := 0) (D_Descent_mayBeChosen 19 rfl) rfl rfl ?_
            refine j_getR rfl fa_Descent_27 kd_30 lc_30 (by decide) rfl fx_30_0 (by decide) (D_Descent_mayBeChosen 20 rfl) ?_
            refine j_getR rfl fa_Descent_68 kd_1 lc_1 (by decide) rfl fx_1_3 (by decide) (D_Descent_mayBeChosen 21 rfl) ?_
            refine j_iloadn (k := 1) (D_Descent_mayBeChosen 22 rfl) rfl rfl ?_
            have g3 := gd_c h
            replace h := gd_s h
            refine j_iald (NI := 32) (D_Descent_mayBeChosen 23 rfl) kd_5 lc_5 (hx1) rfl g3.1 g3.2 ?_
            refine j_aloadn (k := 0) (D_Descent_mayBeChosen 24 rfl) rfl rfl ?_
            refine j_getR rfl fa_Descent_27 kd_30 lc_30 (by decide) rfl fx_30_0 (by decide) (D_Descent_mayBeChosen 25 rfl) ?_
            refine j_getR rfl fa_Descent_112 kd_1 lc_1 (by decide) rfl fx_1_4 (by decide) (D_Descent_mayBeChosen 26 rfl) ?_
            refine j_iloadn (k := 3) (D_Descent_mayBeChosen 27 rfl) rfl rfl ?_
            have g4 := gd_c h
            replace h := gd_s h
            refine j_iald (NI := 32) (D_Descent_mayBeChosen 28 rfl) kd_6 lc_6 (hx3) rfl g4.1 g4.2 ?_
            refine j_ic_gt (tgt := 58) (D_Descent_mayBeChosen 29 rfl) rfl (wr_gi _ _ _) (wr_gi _ _ _) (fun c6 => ?_) (fun c6 => ?_)
            · replace h := ite_t h c6
              refine j_iconst (v := 0) (D_Descent_mayBeChosen 32 rfl) rfl ?_
              refine j_goto (tgt := 88) (D_Descent_mayBeChosen 33 rfl) rfl ?_
              refine j_loc [0, 1, 2, 3] rfl ?_
              exact s_Descent_mayBeChosen_L88 ih (hx1) (hx2) (hx3) (wr_lit rfl) h
            · replace h := ite_f h c6
              refine j_iconst (v := 1) (D_Descent_mayBeChosen 30 rfl) rfl ?_
              refine j_goto (tgt := 88) (D_Descent_mayBeChosen 31 rfl) rfl ?_
              refine j_loc [0, 1, 2, 3] rfl ?_
              exact s_Descent_mayBeChosen_L88 ih (hx1) (hx2) (hx3) (wr_lit rfl) h
def f_Descent_mayBeChosen (G : GS) (a1 : Int) (a2 : Int) : Option (Int) :=
  f_Descent_mayBeChosen_L2 G FU a1 a2 0
theorem c_Descent_mayBeChosen {X : XT} {G : GS} {a1 : Int} {a2 : Int} {r : Int} (ha1 : wr a1 = a1) (ha2 : wr a2 = a2) (h : f_Descent_mayBeChosen G a1 a2 = some r) : Call X true 6 0 0 M_Descent_mayBeChosen [rf X 30, vi a1, vi a2] NC G (Rz r G) := by
  refine Call_of_J cw_Descent_mayBeChosen (by decide +kernel) (Nat.le_of_ble_eq_true rfl) ?_
  unfold f_Descent_mayBeChosen at h
  show J X true 6 0 0 M_Descent_mayBeChosen (Rz r G) NC 0 0 0 [(0, rf X 30), (1, vi a1), (2, vi a2)] [] G
  refine j_iconst (v := 0) (D_Descent_mayBeChosen 0 rfl) rfl ?_
  refine j_istoren (L' := [(3, vi 0), (0, rf X 30), (1, vi a1), (2, vi a2)]) (D_Descent_mayBeChosen 1 rfl) rfl (wr_lit rfl) (by decide) rfl ?_
  refine j_loc [1, 2, 3, 0] rfl ?_
  exact s_Descent_mayBeChosen_L2 FU (ha1) (ha2) (wr_lit rfl) h
abbrev M_Descent_commonPart : MI := (⟨"InquestHall$Descent", "commonPart", "(JJ)J"⟩, prog_2_method_18_code, 11, (some .long))
theorem cw_Descent_commonPart : Cond.code M_Descent_commonPart.1 M_Descent_commonPart.2.1 M_Descent_commonPart.2.2.1 M_Descent_commonPart.2.2.2 ∈ TS := mTS (List.mem_of_getElem? (i := 1002) (by decide +kernel)) (by decide +kernel)
theorem lk_Descent_115 : Cond.methodLink "InquestHall$Descent" 115 Lib.MathLoose.max_long.x ∈ TS := mTS (List.mem_of_getElem? (i := 1003) (by decide +kernel)) (by decide +kernel)
def tb_Descent_commonPart : List (Nat × Instr × Nat) := [(0, .lload_n 0, 1), (1, .lstore 4, 2), (3, .lload_n 2, 1), (4, .lstore 6, 2), (6, .iconst 0, 1), (7, .istore 8, 2), (9, .iload 8, 2), (11, .sipush 200, 3), (14, .if_icmp .ge 31, 3), (17, .lload 6, 2), (19, .lconst 0, 1), (20, .lcmp, 1), (21, .ifCond .eq 24, 3), (24, .lload 4, 2), (26, .lload 6, 2), (28, .lrem, 1), (29, .lstore 9, 2), (31, .lload 6, 2), (33, .lstore 4, 2), (35, .lload 9, 2), (37, .lstore 6, 2), (39, .iinc 8 1, 3), (42, .goto (-33), 3), (45, .lconst 1, 1), (46, .lload 4, 2), (48, .invokestatic 115, 3), (51, .lreturn, 1)]
theorem D_Descent_commonPart (i : Nat) {pc len : Nat} {ins : Instr} (hi : tb_Descent_commonPart[i]? = some (pc, ins, len)) : decode M_Descent_commonPart.2.1 pc = .ok (ins, len) := dec_of (by decide +kernel) i hi
def f_Descent_commonPart_L45 (G : GS) (x4 : Int) : Option (Int) :=
  some (max 1 x4)
theorem s_Descent_commonPart_L45 {X : XT} {G : GS} {r : Int} : ∀ {x4 : Int}, wl x4 = x4 → f_Descent_commonPart_L45 G x4 = some r → J X true 9 0 0 M_Descent_commonPart (Rl r G) NC 0 0 45 [(4, vl x4)] [] G := by
  intro x4 hx4 h
  unfold f_Descent_commonPart_L45 at h
  refine j_lconst (v := 1) (D_Descent_commonPart 23 rfl) rfl ?_
  refine j_lload (k := 0) (D_Descent_commonPart 24 rfl) rfl ?_
  refine j_mmaxl (wl_lit rfl) (hx4) rfl lk_Descent_115 (by decide) (Nat.le_of_ble_eq_true rfl) (D_Descent_commonPart 25 rfl) ?_
  exact j_lret (D_Descent_commonPart 26 rfl) rfl (wl_max (wl_n (wl_lit rfl)) (wl_n (hx4))) rfl rfl (leafLo h (wl_n (wl_max (wl_n (wl_lit rfl)) (wl_n (hx4)))))
def f_Descent_commonPart_L9 (G : GS) : Nat → Int → Int → Int → Option (Int)
  | 0, _, _, _ => none
  | n + 1, x4, x6, x8 =>
    if 200 ≤ x8 then
      f_Descent_commonPart_L45 G x4
    else
      if lc x6 0 = 0 then
        f_Descent_commonPart_L45 G x4
      else
        gd (¬ x6 = 0) <|
        f_Descent_commonPart_L9 G n x6 (lmd x4 x6) (wr (x8 + 1))
theorem s_Descent_commonPart_L9 {X : XT} {G : GS} {r : Int} : ∀ (n : Nat) {x4 : Int} {x6 : Int} {x8 : Int}, wl x4 = x4 → wl x6 = x6 → wr x8 = x8 → f_Descent_commonPart_L9 G n x4 x6 x8 = some r → J X true 9 0 0 M_Descent_commonPart (Rl r G) NC 0 0 9 [(4, vl x4), (6, vl x6), (8, vi x8)] [] G := by
  intro n
  induction n with
  | zero =>
    intro x4 x6 x8 hx4 hx6 hx8 h
    exact none_some h
  | succ n ih =>
    intro x4 x6 x8 hx4 hx6 hx8 h
    rw [f_Descent_commonPart_L9] at h
    refine j_iload (k := 2) (D_Descent_commonPart 6 rfl) rfl ?_
    refine j_sipush (v := 200) (D_Descent_commonPart 7 rfl) rfl ?_
    refine j_ic_ge (tgt := 45) (D_Descent_commonPart 8 rfl) rfl (hx8) (wr_lit rfl) (fun c1 => ?_) (fun c1 => ?_)
    · replace h := ite_t h c1
      refine j_loc [0] rfl ?_
      exact s_Descent_commonPart_L45 (hx4) h
    · replace h := ite_f h c1
      refine j_lload (k := 1) (D_Descent_commonPart 9 rfl) rfl ?_
      refine j_lconst (v := 0) (D_Descent_commonPart 10 rfl) rfl ?_
      refine j_lcmp (D_Descent_commonPart 11 rfl) ?_
      refine j_if_eq (tgt := 45) (D_Descent_commonPart 12 rfl) rfl (wr_lc _ _) (fun c2 => ?_) (fun c2 => ?_)
      · replace h := ite_t h c2
        refine j_loc [0] rfl ?_
        exact s_Descent_commonPart_L45 (hx4) h
      · replace h := ite_f h c2
        refine j_lload (k := 0) (D_Descent_commonPart 13 rfl) rfl ?_
        refine j_lload (k := 1) (D_Descent_commonPart 14 rfl) rfl ?_
        have g1 := gd_c h
        replace h := gd_s h
        refine j_lrem (D_Descent_commonPart 15 rfl) (hx6) g1 ?_
        refine j_lstore (L' := [(9, vl (lmd x4 x6)), (4, vl x4), (6, vl x6), (8, vi x8)]) (D_Descent_commonPart 16 rfl) (wl_lmd _ _) (by decide) rfl ?_
        refine j_lload (k := 2) (D_Descent_commonPart 17 rfl) rfl ?_
        refine j_lstore (L' := [(4, vl x6), (9, vl (lmd x4 x6)), (6, vl x6), (8, vi x8)]) (D_Descent_commonPart 18 rfl) (hx6) (by decide) rfl ?_
        refine j_lload (k := 1) (D_Descent_commonPart 19 rfl) rfl ?_
        refine j_lstore (L' := [(6, vl (lmd x4 x6)), (4, vl x6), (9, vl (lmd x4 x6)), (8, vi x8)]) (D_Descent_commonPart 20 rfl) (wl_lmd _ _) (by decide) rfl ?_
        refine j_iinc (k := 3) (L' := [(8, vi (wr (x8 + 1))), (6, vl (lmd x4 x6)), (4, vl x6), (9, vl (lmd x4 x6))]) (D_Descent_commonPart 21 rfl) rfl rfl (by decide) rfl ?_
        refine j_goto (tgt := 9) (D_Descent_commonPart 22 rfl) rfl ?_
        refine j_loc [2, 1, 0] rfl ?_
        exact ih (hx6) (wl_lmd _ _) (wr_wr _) h
def f_Descent_commonPart (G : GS) (a0 : Int) (a2 : Int) : Option (Int) :=
  f_Descent_commonPart_L9 G FU a0 a2 0
theorem c_Descent_commonPart {X : XT} {G : GS} {a0 : Int} {a2 : Int} {r : Int} (ha0 : wl a0 = a0) (ha2 : wl a2 = a2) (h : f_Descent_commonPart G a0 a2 = some r) : Call X true 9 0 0 M_Descent_commonPart [vl a0, vl a2] NC G (Rl r G) := by
  refine Call_of_J cw_Descent_commonPart (by decide +kernel) (Nat.le_of_ble_eq_true rfl) ?_
  unfold f_Descent_commonPart at h
  show J X true 9 0 0 M_Descent_commonPart (Rl r G) NC 0 0 0 [(0, vl a0), (2, vl a2)] [] G
  refine j_lloadn (k := 0) (D_Descent_commonPart 0 rfl) rfl rfl ?_
  refine j_lstore (L' := [(4, vl a0), (0, vl a0), (2, vl a2)]) (D_Descent_commonPart 1 rfl) (ha0) (by decide) rfl ?_
  refine j_lloadn (k := 2) (D_Descent_commonPart 2 rfl) rfl rfl ?_
  refine j_lstore (L' := [(6, vl a2), (4, vl a0), (0, vl a0), (2, vl a2)]) (D_Descent_commonPart 3 rfl) (ha2) (by decide) rfl ?_
  refine j_iconst (v := 0) (D_Descent_commonPart 4 rfl) rfl ?_
  refine j_istore (L' := [(8, vi 0), (6, vl a2), (4, vl a0), (0, vl a0), (2, vl a2)]) (D_Descent_commonPart 5 rfl) (wr_lit rfl) (by decide) rfl ?_
  refine j_loc [2, 1, 0] rfl ?_
  exact s_Descent_commonPart_L9 FU (ha0) (ha2) (wr_lit rfl) h
abbrev M_Descent_isLess : MI := (⟨"InquestHall$Descent", "isLess", "(II)Z"⟩, prog_2_method_17_code, 5, (some .boolean))
theorem cw_Descent_isLess : Cond.code M_Descent_isLess.1 M_Descent_isLess.2.1 M_Descent_isLess.2.2.1 M_Descent_isLess.2.2.2 ∈ TS := mTS (List.mem_of_getElem? (i := 999) (by decide +kernel)) (by decide +kernel)
theorem fa_Descent_24 : FA "InquestHall$Descent" 24 7 7 true (.array .long) := ⟨_, _, _, _, ok_Descent, by decide, mTS (List.mem_of_getElem? (i := 433) (by decide +kernel)) (by decide +kernel), rfl, rfl⟩
theorem fx_30_7 {G : GS} (w : WF true NC G) : G.2.2 30 7 = 34 := w.2 rfl (30, 7, 34) (by decide)
theorem kd_34 : kd 34 = (1, 33) := rfl
theorem lc_34 : 34 < NC := by decide
theorem lk_Descent_97 : Cond.methodLink "InquestHall$Descent" 97 M_Descent_commonPart.1 ∈ TS := mTS (List.mem_of_getElem? (i := 1000) (by decide +kernel)) (by decide +kernel)
theorem sok_Descent_commonPart : SOK M_Descent_commonPart 2 := ⟨mTS (List.mem_of_getElem? (i := 1001) (by decide +kernel)) (by decide +kernel), mTS (List.mem_of_getElem? (i := 134) (by decide +kernel)) (by decide +kernel), cw_Descent_commonPart, ⟨by decide, by decide, by decide +kernel⟩, by decide +kernel, by decide⟩
theorem fa_Descent_20 : FA "InquestHall$Descent" 20 7 6 true (.array .long) := ⟨_, _, _, _, ok_Descent, by decide, mTS (List.mem_of_getElem? (i := 432) (by decide +kernel)) (by decide +kernel), rfl, rfl⟩
theorem fx_30_6 {G : GS} (w : WF true NC G) : G.2.2 30 6 = 33 := w.2 rfl (30, 6, 33) (by decide)
theorem kd_33 : kd 33 = (1, 33) := rfl
theorem lc_33 : 33 < NC := by decide
def tb_Descent_isLess : List (Nat × Instr × Nat) := [(0, .aload_n 0, 1), (1, .getfield 24, 3), (4, .iload_n 1, 1), (5, .laload, 1), (6, .aload_n 0, 1), (7, .getfield 24, 3), (10, .iload_n 2, 1), (11, .laload, 1), (12, .invokestatic 97, 3), (15, .lstore_n 3, 1), (16, .aload_n 0, 1), (17, .getfield 20, 3), (20, .iload_n 1, 1), (21, .laload, 1), (22, .aload_n 0, 1), (23, .getfield 24, 3), (26, .iload_n 2, 1), (27, .laload, 1), (28, .lload_n 3, 1), (29, .ldiv, 1), (30, .lmul, 1), (31, .aload_n 0, 1), (32, .getfield 20, 3), (35, .iload_n 2, 1), (36, .laload, 1), (37, .aload_n 0, 1), (38, .getfield 24, 3), (41, .iload_n 1, 1), (42, .laload, 1), (43, .lload_n 3, 1), (44, .ldiv, 1), (45, .lmul, 1), (46, .lcmp, 1), (47, .ifCond .ge 7, 3), (50, .iconst 1, 1), (51, .goto 4, 3), (54, .iconst 0, 1), (55, .ireturn, 1)]
theorem D_Descent_isLess (i : Nat) {pc len : Nat} {ins : Instr} (hi : tb_Descent_isLess[i]? = some (pc, ins, len)) : decode M_Descent_isLess.2.1 pc = .ok (ins, len) := dec_of (by decide +kernel) i hi
def f_Descent_isLess (G : GS) (a1 : Int) (a2 : Int) : Option (Int) :=
  gd (0 ≤ a1 ∧ a1 < 33) <|
  gd (0 ≤ a2 ∧ a2 < 33) <|
  (f_Descent_commonPart G (gl G 34 a1.toNat) (gl G 34 a2.toNat)).bind fun q1 =>
  gd (0 ≤ a1 ∧ a1 < 33) <|
  gd (0 ≤ a2 ∧ a2 < 33) <|
  gd (¬ q1 = 0) <|
  gd (0 ≤ a2 ∧ a2 < 33) <|
  gd (0 ≤ a1 ∧ a1 < 33) <|
  gd (¬ q1 = 0) <|
  if 0 ≤ lc ((gl G 33 a1.toNat) * (ldv (gl G 34 a2.toNat) q1)) ((gl G 33 a2.toNat) * (ldv (gl G 34 a1.toNat) q1)) then
    some 0
  else
    some 1
theorem c_Descent_isLess {X : XT} {G : GS} {a1 : Int} {a2 : Int} {r : Int} (ha1 : wr a1 = a1) (ha2 : wr a2 = a2) (h : f_Descent_isLess G a1 a2 = some r) : Call X true 10 0 0 M_Descent_isLess [rf X 30, vi a1, vi a2] NC G (Rz r G) := by
  refine Call_of_J cw_Descent_isLess (by decide +kernel) (Nat.le_of_ble_eq_true rfl) ?_
  unfold f_Descent_isLess at h
  show J X true 10 0 0 M_Descent_isLess (Rz r G) NC 0 0 0 [(0, rf X 30), (1, vi a1), (2, vi a2)] [] G
  refine j_aloadn (k := 0) (D_Descent_isLess 0 rfl) rfl rfl ?_
  refine j_getR rfl fa_Descent_24 kd_30 lc_30 (by decide) rfl fx_30_7 (by decide) (D_Descent_isLess 1 rfl) ?_
  refine j_iloadn (k := 1) (D_Descent_isLess 2 rfl) rfl rfl ?_
  have g1 := gd_c h
  replace h := gd_s h
  refine j_lald (NI := 33) (D_Descent_isLess 3 rfl) kd_34 lc_34 (ha1) rfl g1.1 g1.2 ?_
  refine j_aloadn (k := 0) (D_Descent_isLess 4 rfl) rfl rfl ?_
  refine j_getR rfl fa_Descent_24 kd_30 lc_30 (by decide) rfl fx_30_7 (by decide) (D_Descent_isLess 5 rfl) ?_
  refine j_iloadn (k := 2) (D_Descent_isLess 6 rfl) rfl rfl ?_
  have g2 := gd_c h
  replace h := gd_s h
  refine j_lald (NI := 33) (D_Descent_isLess 7 rfl) kd_34 lc_34 (ha2) rfl g2.1 g2.2 ?_
  obtain ⟨q1, e1, h⟩ := Option.bind_eq_some_iff.mp h
  refine j_cSl (c_Descent_commonPart (wl_gl _ _ _) (wl_gl _ _ _) e1) rfl lk_Descent_97 sok_Descent_commonPart (by decide) rfl rfl (Nat.le_of_ble_eq_true rfl) (D_Descent_isLess 8 rfl) (fun w1 => ?_)
  refine j_lstoren (L' := [(3, vl q1), (0, rf X 30), (1, vi a1), (2, vi a2)]) (D_Descent_isLess 9 rfl) rfl (w1) (by decide) rfl ?_
  refine j_aloadn (k := 1) (D_Descent_isLess 10 rfl) rfl rfl ?_
  refine j_getR rfl fa_Descent_20 kd_30 lc_30 (by decide) rfl fx_30_6 (by decide) (D_Descent_isLess 11 rfl) ?_
  refine j_iloadn (k := 2) (D_Descent_isLess 12 rfl) rfl rfl ?_
  have g3 := gd_c h
  replace h := gd_s h
  refine j_lald (NI := 33) (D_Descent_isLess 13 rfl) kd_33 lc_33 (ha1) rfl g3.1 g3.2 ?_
  refine j_aloadn (k := 1) (D_Descent_isLess 14 rfl) rfl rfl ?_
  refine j_getR rfl fa_Descent_24 kd_30 lc_30 (by decide) rfl fx_30_7 (by decide) (D_Descent_isLess 15 rfl) ?_
  refine j_iloadn (k := 3) (D_Descent_isLess 16 rfl) rfl rfl ?_
  have g4 := gd_c h
  replace h := gd_s h
  refine j_lald (NI := 33) (D_Descent_isLess 17 rfl) kd_34 lc_34 (ha2) rfl g4.1 g4.2 ?_
  refine j_lloadn (k := 0) (D_Descent_isLess 18 rfl) rfl rfl ?_
  have g5 := gd_c h
  replace h := gd_s h
  refine j_ldiv (D_Descent_isLess 19 rfl) (w1) g5 ?_
  refine j_lmul (D_Descent_isLess 20 rfl) ?_
  refine j_aloadn (k := 1) (D_Descent_isLess 21 rfl) rfl rfl ?_
  refine j_getR rfl fa_Descent_20 kd_30 lc_30 (by decide) rfl fx_30_6 (by decide) (D_Descent_isLess 22 rfl) ?_
  refine j_iloadn (k := 3) (D_Descent_isLess 23 rfl) rfl rfl ?_
  have g6 := gd_c h
  replace h := gd_s h
  refine j_lald (NI := 33) (D_Descent_isLess 24 rfl) kd_33 lc_33 (ha2) rfl g6.1 g6.2 ?_
  refine j_aloadn (k := 1) (D_Descent_isLess 25 rfl) rfl rfl ?_
  refine j_getR rfl fa_Descent_24 kd_30 lc_30 (by decide) rfl fx_30_7 (by decide) (D_Descent_isLess 26 rfl) ?_
  refine j_iloadn (k := 2) (D_Descent_isLess 27 rfl) rfl rfl ?_
  have g7 := gd_c h
  replace h := gd_s h
  refine j_lald (NI := 33) (D_Descent_isLess 28 rfl) kd_34 lc_34 (ha1) rfl g7.1 g7.2 ?_
  refine j_lloadn (k := 0) (D_Descent_isLess 29 rfl) rfl rfl ?_
  have g8 := gd_c h
  replace h := gd_s h
  refine j_ldiv (D_Descent_isLess 30 rfl) (w1) g8 ?_
  refine j_lmul (D_Descent_isLess 31 rfl) ?_
  refine j_lcmp (D_Descent_isLess 32 rfl) ?_
  refine j_if_ge (tgt := 54) (D_Descent_isLess 33 rfl) rfl (wr_lc _ _) (fun c1 => ?_) (fun c1 => ?_)
  · replace h := ite_t h c1
    refine j_iconst (v := 0) (D_Descent_isLess 36 rfl) rfl ?_
    exact j_zret (D_Descent_isLess 37 rfl) rfl (wr_lit rfl) (nz_01 (by decide)) rfl rfl (leafZo h (wr_n (wr_lit rfl)) (by decide))
  · replace h := ite_f h c1
    refine j_iconst (v := 1) (D_Descent_isLess 34 rfl) rfl ?_
    refine j_goto (tgt := 55) (D_Descent_isLess 35 rfl) rfl ?_
    exact j_zret (D_Descent_isLess 37 rfl) rfl (wr_lit rfl) (nz_01 (by decide)) rfl rfl (leafZo h (wr_n (wr_lit rfl)) (by decide))
abbrev M_Descent_boundary : MI := (⟨"InquestHall$Descent", "boundary", "(II)I"⟩, prog_2_method_15_code, 6, (some .int))
theorem cw_Descent_boundary : Cond.code M_Descent_boundary.1 M_Descent_boundary.2.1 M_Descent_boundary.2.2.1 M_Descent_boundary.2.2.2 ∈ TS := mTS (List.mem_of_getElem? (i := 991) (by decide +kernel)) (by decide +kernel)
theorem lk_Descent_106 : Cond.methodLink "InquestHall$Descent" 106 M_Descent_mayBeChosen.1 ∈ TS := mTS (List.mem_of_getElem? (i := 992) (by decide +kernel)) (by decide +kernel)
theorem mok_Descent_mayBeChosen : MOK M_Descent_mayBeChosen 2 := ⟨mTS (List.mem_of_getElem? (i := 994) (by decide +kernel)) (by decide +kernel), mTS (List.mem_of_getElem? (i := 32) (by decide +kernel)) (by decide +kernel), mTS (List.mem_of_getElem? (i := 134) (by decide +kernel)) (by decide +kernel), cw_Descent_mayBeChosen, ⟨by decide, by decide, by decide +kernel⟩, by decide +kernel, by decide⟩
theorem lk_Descent_109 : Cond.methodLink "InquestHall$Descent" 109 M_Descent_isLess.1 ∈ TS := mTS (List.mem_of_getElem? (i := 996) (by decide +kernel)) (by decide +kernel)
theorem mok_Descent_isLess : MOK M_Descent_isLess 2 := ⟨mTS (List.mem_of_getElem? (i := 998) (by decide +kernel)) (by decide +kernel), mTS (List.mem_of_getElem? (i := 33) (by decide +kernel)) (by decide +kernel), mTS (List.mem_of_getElem? (i := 134) (by decide +kernel)) (by decide +kernel), cw_Descent_isLess, ⟨by decide, by decide, by decide +kernel⟩, by decide +kernel, by decide⟩
def tb_Descent_boundary : List (Nat × Instr × Nat) := [(0, .iconst (-1), 1), (1, .istore_n 3, 1), (2, .iconst 0, 1), (3, .istore 4, 2), (5, .iload 4, 2), (7, .aload_n 0, 1), (8, .getfield 27, 3), (11, .getfield 31, 3), (14, .if_icmp .ge 80, 3), (17, .iload_n 1, 1), (18, .iconst 1, 1), (19, .iload 4, 2), (21, .ishl, 1), (22, .iand, 1), (23, .ifCond .eq 65, 3), (26, .aload_n 0, 1), (27, .iload 4, 2), (29, .iload_n 1, 1), (30, .invokevirtual 106, 3), (33, .ifCond .eq 55, 3), (36, .iload_n 3, 1), (37, .iconst (-1), 1), (38, .if_icmp .eq 31, 3), (41, .iload_n 2, 1), (42, .iconst 2, 1), (43, .if_icmp .ne 16, 3), (46, .aload_n 0, 1), (47, .iload_n 3, 1), (48, .iload 4, 2), (50, .invokevirtual 109, 3), (53, .ifCond .eq 20, 3), (56, .goto 13, 3), (59, .aload_n 0, 1), (60, .iload 4, 2), (62, .iload_n 3, 1), (63, .invokevirtual 109, 3), (66, .ifCond .eq 7, 3), (69, .iconst 1, 1), (70, .goto 4, 3), (73, .iconst 0, 1), (74, .istore 5, 2), (76, .iload 5, 2), (78, .ifCond .eq 8, 3), (81, .iload 4, 2), (83, .goto 4, 3), (86, .iload_n 3, 1), (87, .istore_n 3, 1), (88, .iinc 4 1, 3), (91, .goto (-86), 3), (94, .iconst 0, 1), (95, .iload_n 3, 1), (96, .invokestatic 81, 3), (99, .ireturn, 1)]
theorem D_Descent_boundary (i : Nat) {pc len : Nat} {ins : Instr} (hi : tb_Descent_boundary[i]? = some (pc, ins, len)) : decode M_Descent_boundary.2.1 pc = .ok (ins, len) := dec_of (by decide +kernel) i hi
def f_Descent_boundary_L88 (G : GS) (k5 : Int → Int → Int → Int → Option (Int)) (x1 : Int) (x2 : Int) (x3 : Int) (x4 : Int) : Option (Int) :=
  k5 x1 x2 x3 (wr (x4 + 1))
theorem s_Descent_boundary_L88 {X : XT} {G : GS} {r : Int} {k5 : Int → Int → Int → Int → Option (Int)} (hk5 : ∀ {x1 : Int} {x2 : Int} {x3 : Int} {x4 : Int} , wr x1 = x1 → wr x2 = x2 → wr x3 = x3 → wr x4 = x4 → k5 x1 x2 x3 x4 = some r → J X true 11 0 0 M_Descent_boundary (Ri r G) NC 0 0 5 [(0, rf X 30), (1, vi x1), (2, vi x2), (3, vi x3), (4, vi x4)] [] G) : ∀ {x1 : Int} {x2 : Int} {x3 : Int} {x4 : Int}, wr x1 = x1 → wr x2 = x2 → wr x3 = x3 → wr x4 = x4 → f_Descent_boundary_L88 G k5 x1 x2 x3 x4 = some r → J X true 11 0 0 M_Descent_boundary (Ri r G) NC 0 0 88 [(0, rf X 30), (1, vi x1), (2, vi x2), (3, vi x3), (4, vi x4)] [] G := by
  intro x1 x2 x3 x4 hx1 hx2 hx3 hx4 h
  unfold f_Descent_boundary_L88 at h
  refine j_iinc (k := 4) (L' := [(4, vi (wr (x4 + 1))), (0, rf X 30), (1, vi x1), (2, vi x2), (3, vi x3)]) (D_Descent_boundary 47 rfl) rfl rfl (by decide) rfl ?_
  refine j_goto (tgt := 5) (D_Descent_boundary 48 rfl) rfl ?_
  refine j_loc [1, 2, 3, 4, 0] rfl ?_
  exact hk5 (hx1) (hx2) (hx3) (wr_wr _) h
def f_Descent_boundary_L87 (G : GS) (k5 : Int → Int → Int → Int → Option (Int)) (x1 : Int) (x2 : Int) (x4 : Int) (s0 : Int) : Option (Int) :=
  f_Descent_boundary_L88 G k5 x1 x2 s0 x4
theorem s_Descent_boundary_L87 {X : XT} {G : GS} {r : Int} {k5 : Int → Int → Int → Int → Option (Int)} (hk5 : ∀ {x1 : Int} {x2 : Int} {x3 : Int} {x4 : Int} , wr x1 = x1 → wr x2 = x2 → wr x3 = x3 → wr x4 = x4 → k5 x1 x2 x3 x4 = some r → J X true 11 0 0 M_Descent_boundary (Ri r G) NC 0 0 5 [(0, rf X 30), (1, vi x1), (2, vi x2), (3, vi x3), (4, vi x4)] [] G) : ∀ {x1 : Int} {x2 : Int} {x4 : Int} {s0 : Int}, wr x1 = x1 → wr x2 = x2 → wr x4 = x4 → wr s0 = s0 → f_Descent_boundary_L87 G k5 x1 x2 x4 s0 = some r → J X true 11 0 0 M_Descent_boundary (Ri r G) NC 0 0 87 [(0, rf X 30), (1, vi x1), (2, vi x2), (4, vi x4)] [vi s0] G := by
  intro x1 x2 x4 s0 hx1 hx2 hx4 hs0 h
  unfold f_Descent_boundary_L87 at h
  refine j_istoren (L' := [(3, vi s0), (0, rf X 30), (1, vi x1), (2, vi x2), (4, vi x4)]) (D_Descent_boundary 46 rfl) rfl (hs0) (by decide) rfl ?_
  refine j_loc [1, 2, 3, 0, 4] rfl ?_
  exact s_Descent_boundary_L88 hk5 (hx1) (hx2) (hs0) (hx4) h
def f_Descent_boundary_L74 (G : GS) (k5 : Int → Int → Int → Int → Option (Int)) (x1 : Int) (x2 : Int) (x3 : Int) (x4 : Int) (s0 : Int) : Option (Int) :=
  if s0 = 0 then
    f_Descent_boundary_L87 G k5 x1 x2 x4 x3
  else
    f_Descent_boundary_L87 G k5 x1 x2 x4 x4
theorem s_Descent_boundary_L74 {X : XT} {G : GS} {r : Int} {k5 : Int → Int → Int → Int → Option (Int)} (hk5 : ∀ {x1 : Int} {x2 : Int} {x3 : Int} {x4 : Int} , wr x1 = x1 → wr x2 = x2 → wr x3 = x3 → wr x4 = x4 → k5 x1 x2 x3 x4 = some r → J X true 11 0 0 M_Descent_boundary (Ri r G) NC 0 0 5 [(0, rf X 30), (1, vi x1), (2, vi x2), (3, vi x3), (4, vi x4)] [] G) : ∀ {x1 : Int} {x2 : Int} {x3 : Int} {x4 : Int} {s0 : Int}, wr x1 = x1 → wr x2 = x2 → wr x3 = x3 → wr x4 = x4 → wr s0 = s0 → f_Descent_boundary_L74 G k5 x1 x2 x3 x4 s0 = some r → J X true 11 0 0 M_Descent_boundary (Ri r G) NC 0 0 74 [(0, rf X 30), (1, vi x1), (2, vi x2), (3, vi x3), (4, vi x4)] [vi s0] G := by
  intro x1 x2 x3 x4 s0 hx1 hx2 hx3 hx4 hs0 h
  unfold f_Descent_boundary_L74 at h
  refine j_istore (L' := [(5, vi s0), (0, rf X 30), (1, vi x1), (2, vi x2), (3, vi x3), (4, vi x4)]) (D_Descent_boundary 40 rfl) (hs0) (by decide) rfl ?_
  refine j_iload (k := 0) (D_Descent_boundary 41 rfl) rfl ?_
  refine j_if_eq (tgt := 86) (D_Descent_boundary 42 rfl) rfl (hs0) (fun c1 => ?_) (fun c1 => ?_)
  · replace h := ite_t h c1
    refine j_iloadn (k := 4) (D_Descent_boundary 45 rfl) rfl rfl ?_
    refine j_loc [1, 2, 3, 5] rfl ?_
    exact s_Descent_boundary_L87 hk5 (hx1) (hx2) (hx4) (hx3) h
  · replace h := ite_f h c1
    refine j_iload (k := 5) (D_Descent_boundary 43 rfl) rfl ?_
    refine j_goto (tgt := 87) (D_Descent_boundary 44 rfl) rfl ?_
    refine j_loc [1, 2, 3, 5] rfl ?_
    exact s_Descent_boundary_L87 hk5 (hx1) (hx2) (hx4) (hx4) h
def f_Descent_boundary_L69 (G : GS) (k5 : Int → Int → Int → Int → Option (Int)) (x1 : Int) (x2 : Int) (x3 : Int) (x4 : Int) : Option (Int) :=
  f_Descent_boundary_L74 G k5 x1 x2 x3 x4 1
theorem s_Descent_boundary_L69 {X : XT} {G : GS} {r : Int} {k5 : Int → Int → Int → Int → Option (Int)} (hk5 : ∀ {x1 : Int} {x2 : Int} {x3 : Int} {x4 : Int} , wr x1 = x1 → wr x2 = x2 → wr x3 = x3 → wr x4 = x4 → k5 x1 x2 x3 x4 = some r → J X true 11 0 0 M_Descent_boundary (Ri r G) NC 0 0 5 [(0, rf X 30), (1, vi x1), (2, vi x2), (3, vi x3), (4, vi x4)] [] G) : ∀ {x1 : Int} {x2 : Int} {x3 : Int} {x4 : Int}, wr x1 = x1 → wr x2 = x2 → wr x3 = x3 → wr x4 = x4 → f_Descent_boundary_L69 G k5 x1 x2 x3 x4 = some r → J X true 11 0 0 M_Descent_boundary (Ri r G) NC 0 0 69 [(0, rf X 30), (1, vi x1), (2, vi x2), (3, vi x3), (4, vi x4)] [] G := by
  intro x1 x2 x3 x4 hx1 hx2 hx3 hx4 h
  unfold f_Descent_boundary_L69 at h
  refine j_iconst (v := 1) (D_Descent_boundary 37 rfl) rfl ?_
  refine j_goto (tgt := 74) (D_Descent_boundary 38 rfl) rfl ?_
  refine j_loc [0, 1, 2, 3, 4] rfl ?_
  exact s_Descent_boundary_L74 hk5 (hx1) (hx2) (hx3) (hx4) (wr_lit rfl) h
def f_Descent_boundary_L73 (G : GS) (k5 : Int → Int → Int → Int → Option (Int)) (x1 : Int) (x2 : Int) (x3 : Int) (x4 : Int) : Option (Int) :=
  f_Descent_boundary_L74 G k5 x1 x2 x3 x4 0
theorem s_Descent_boundary_L73 {X : XT} {G : GS} {r : Int} {k5 : Int → Int → Int → Int → Option (Int)} (hk5 : ∀ {x1 : Int} {x2 : Int} {x3 : Int} {x4 : Int} , wr x1 = x1 → wr x2 = x2 → wr x3 = x3 → wr x4 = x4 → k5 x1 x2 x3 x4 = some r → J X true 11 0 0 M_Descent_boundary (Ri r G) NC 0 0 5 [(0, rf X 30), (1, vi x1), (2, vi x2), (3, vi x3), (4, vi x4)] [] G) : ∀ {x1 : Int} {x2 : Int} {x3 : Int} {x4 : Int}, wr x1 = x1 → wr x2 = x2 → wr x3 = x3 → wr x4 = x4 → f_Descent_boundary_L73 G k5 x1 x2 x3 x4 = some r → J X true 11 0 0 M_Descent_boundary (Ri r G) NC 0 0 73 [(0, rf X 30), (1, vi x1), (2, vi x2), (3, vi x3), (4, vi x4)] [] G := by
  intro x1 x2 x3 x4 hx1 hx2 hx3 hx4 h
  unfold f_Descent_boundary_L73 at h
  refine j_iconst (v := 0) (D_Descent_boundary 39 rfl) rfl ?_
  refine j_loc [0, 1, 2, 3, 4] rfl ?_
  exact s_Descent_boundary_L74 hk5 (hx1) (hx2) (hx3) (hx4) (wr_lit rfl) h
def f_Descent_boundary_L5 (G : GS) : Nat → Int → Int → Int → Int → Option (Int)
  | 0, _, _, _, _ => none
  | n + 1, x1, x2, x3, x4 =>
    if gi G 1 7 ≤ x4 then
      some (max 0 x3)
    else
      if bAnd x1 (bShl 1 x4) = 0 then
        f_Descent_boundary_L88 G (f_Descent_boundary_L5 G n) x1 x2 x3 x4
      else
        (f_Descent_mayBeChosen G x4 x1).bind fun q1 =>
        if q1 = 0 then
          f_Descent_boundary_L88 G (f_Descent_boundary_L5 G n) x1 x2 x3 x4
        else
          if x3 = (-1) then
            f_Descent_boundary_L69 G (f_Descent_boundary_L5 G n) x1 x2 x3 x4
          else
            if x2 = 2 then
              (f_Descent_isLess G x3 x4).bind fun q3 =>
              if q3 = 0 then
                f_Descent_boundary_L73 G (f_Descent_boundary_L5 G n) x1 x2 x3 x4
              else
                f_Descent_boundary_L69 G (f_Descent_boundary_L5 G n) x1 x2 x3 x4
            else
              (f_Descent_isLess G x4 x3).bind fun q2 =>
              if q2 = 0 then
                f_Descent_boundary_L73 G (f_Descent_boundary_L5 G n) x1 x2 x3 x4
              else
                f_Descent_boundary_L69 G (f_Descent_boundary_L5 G n) x1 x2 x3 x4
theorem s_Descent_boundary_L5 {X : XT} {G : GS} {r : Int} : ∀ (n : Nat) {x1 : Int} {x2 : Int} {x3 : Int} {x4 : Int}, wr x1 = x1 → wr x2 = x2 → wr x3 = x3 → wr x4 = x4 → f_Descent_boundary_L5 G n x1 x2 x3 x4 = some r → J X true 11 0 0 M_Descent_boundary (Ri r G) NC 0 0 5 [(0, rf X 30), (1, vi x1), (2, vi x2), (3, vi x3), (4, vi x4)] [] G := by
  intro n
  induction n with
  | zero =>
    intro x1 x2 x3 x4 hx1 hx2 hx3 hx4 h
    exact none_some h
  | succ n ih =>
    intro x1 x2 x3 x4 hx1 hx2 hx3 hx4 h
    rw [f_Descent_boundary_L5] at h
    refine j_iload (k := 4) (D_Descent_boundary 4 rfl) rfl ?_
    refine j_aloadn (k := 0) (D_Descent_boundary 5 rfl) rfl rfl ?_
    refine j_getR rfl fa_Descent_27 kd_30 lc_30 (by decide) rfl fx_30_0 (by decide) (D_Descent_boundary 6 rfl) ?_
    refine j_getI rfl fa_Descent_31 kd_1 lc_1 (by decide) rfl (D_Descent_boundary 7 rfl) ?_
    refine j_ic_ge (tgt := 94) (D_Descent_boundary 8 rfl) rfl (hx4) (wr_gi _ _ _) (fun c1 => ?_) (fun c1 => ?_)
    · replace h := ite_t h c1
      refine j_iconst (v := 0) (D_Descent_boundary 49 rfl) rfl ?_
      refine j_iloadn (k := 3) (D_Descent_boundary 50 rfl) rfl rfl ?_
      refine j_mmax (wr_lit rfl) (hx3) rfl lk_Descent_81 (by decide) (Nat.le_of_ble_eq_true rfl) (D_Descent_boundary 51 rfl) ?_
      exact j_iret (D_Descent_boundary 52 rfl) rfl (wr_max (wr_n (wr_lit rfl)) (wr_n (hx3))) rfl rfl (leafIo h (wr_n (wr_max (wr_n (wr_lit rfl)) (wr_n (hx3)))))
    · replace h := ite_f h c1
      refine j_iloadn (k := 1) (D_Descent_boundary 9 rfl) rfl rfl ?_
      refine j_iconst (v := 1) (D_Descent_boundary 10 rfl) rfl ?_
      refine j_iload (k := 4) (D_Descent_boundary 11 rfl) rfl ?_
      refine j_ishl (D_Descent_boundary 12 rfl) ?_
      refine j_iand (D_Descent_boundary 13 rfl) ?_
      refine j_if_eq (tgt := 88) (D_Descent_boundary 14 rfl) rfl (wr_bAnd _ _) (fun c2 => ?_) (fun c2 => ?_)
      · replace h := ite_t h c2
        refine j_loc [0, 1, 2, 3, 4] rfl ?_
        exact s_Descent_boundary_L88 ih (hx1) (hx2) (hx3) (hx4) h
      · replace h := ite_f h c2
        refine j_aloadn (k := 0) (D_Descent_boundary 15 rfl) rfl rfl ?_
        refine j_iload (k := 4) (D_Descent_boundary 16 rfl) rfl ?_
        refine j_iloadn (k := 1) (D_Descent_boundary 17 rfl) rfl rfl ?_
        obtain ⟨q1, e1, h⟩ := Option.bind_eq_some_iff.mp h
        refine j_cVz (c_Descent_mayBeChosen (hx4) (hx1) e1) rfl lk_Descent_106 mok_Descent_mayBeChosen kd_30 lc_30 rfl (by decide) rfl rfl (Nat.le_of_ble_eq_true rfl) (D_Descent_boundary 18 rfl) (fun w1 bw1 => ?_)
        refine j_if_eq (tgt := 88) (D_Descent_boundary 19 rfl) rfl (w1) (fun c3 => ?_) (fun c3 => ?_)
        · replace h := ite_t h c3
          refine j_loc [0, 1, 2, 3, 4] rfl ?_
          exact s_Descent_boundary_L88 ih (hx1) (hx2) (hx3) (hx4) h
        · replace h := ite_f h c3
          refine j_iloadn (k := 3) (D_Descent_boundary 20 rfl) rfl rfl ?_
          refine j_iconst (v := (-1)) (D_Descent_boundary 21 rfl) rfl ?_
          refine j_ic_eq (tgt := 69) (D_Descent_boundary 22 rfl) rfl (hx3) (wr_lit rfl) (fun c4 => ?_) (fun c4 => ?_)
          · replace h := ite_t h c4
            refine j_loc [0, 1, 2, 3, 4] rfl ?_
            exact s_Descent_boundary_L69 ih (hx1) (hx2) (hx3) (hx4) h
          · replace h := ite_f h c4
            refine j_iloadn (k := 2) (D_Descent_boundary 23 rfl) rfl rfl ?_
            refine j_iconst (v := 2) (D_Descent_boundary 24 rfl) rfl ?_
            refine j_ic_ne (tgt := 59) (D_Descent_boundary 25 rfl) rfl (hx2) (wr_lit rfl) (fun c5 => ?_) (fun c5 => ?_)
            · replace h := ite_f h c5
              refine j_aloadn (k := 0) (D_Descent_boundary 32 rfl) rfl rfl ?_
              refine j_iload (k := 4) (D_Descent_boundary 33 rfl) rfl ?_
              refine j_iloadn (k := 3) (D_Descent_boundary 34 rfl) rfl rfl ?_
              obtain ⟨q2, e2, h⟩ := Option.bind_eq_some_iff.mp h
              refine j_cVz (c_Descent_isLess (hx4) (hx3) e2) rfl lk_Descent_109 mok_Descent_isLess kd_30 lc_30 rfl (by decide) rfl rfl (Nat.le_of_ble_eq_true rfl) (D_Descent_boundary 35 rfl) (fun w2 bw2 => ?_)
              refine j_if_eq (tgt := 73) (D_Descent_boundary 36 rfl) rfl (w2) (fun c6 => ?_) (fun c6 => ?_)
              · replace h := ite_t h c6
                refine j_loc [0, 1, 2, 3, 4] rfl ?_
                exact s_Descent_boundary_L73 ih (hx1) (hx2) (hx3) (hx4) h
              · replace h := ite_f h c6
                refine j_loc [0, 1, 2, 3, 4] rfl ?_
                exact s_Descent_boundary_L69 ih (hx1) (hx2) (hx3) (hx4) h
            · replace h := ite_t h c5
              refine j_aloadn (k := 0) (D_Descent_boundary 26 rfl) rfl rfl ?_
              refine j_iloadn (k := 3) (D_Descent_boundary 27 rfl) rfl rfl ?_
              refine j_iload (k := 4) (D_Descent_boundary 28 rfl) rfl ?_
              obtain ⟨q3, e3, h⟩ := Option.bind_eq_some_iff.mp h
              refine j_cVz (c_Descent_isLess (hx3) (hx4) e3) rfl lk_Descent_109 mok_Descent_isLess kd_30 lc_30 rfl (by decide) rfl rfl (Nat.le_of_ble_eq_true rfl) (D_Descent_boundary 29 rfl) (fun w3 bw3 => ?_)
              refine j_if_eq (tgt := 73) (D_Descent_boundary 30 rfl) rfl (w3) (fun c7 => ?_) (fun c7 => ?_)
              · replace h := ite_t h c7
                refine j_loc [0, 1, 2, 3, 4] rfl ?_
                exact s_Descent_boundary_L73 ih (hx1) (hx2) (hx3) (hx4) h
              · replace h := ite_f h c7
                refine j_goto (tgt := 69) (D_Descent_boundary 31 rfl) rfl ?_
                refine j_loc [0, 1, 2, 3, 4] rfl ?_
                exact s_Descent_boundary_L69 ih (hx1) (hx2) (hx3) (hx4) h
def f_Descent_boundary (G : GS) (a1 : Int) (a2 : Int) : Option (Int) :=
  f_Descent_boundary_L5 G FU a1 a2 (-1) 0
theorem c_Descent_boundary {X : XT} {G : GS} {a1 : Int} {a2 : Int} {r : Int} (ha1 : wr a1 = a1) (ha2 : wr a2 = a2) (h : f_Descent_boundary G a1 a2 = some r) : Call X true 11 0 0 M_Descent_boundary [rf X 30, vi a1, vi a2] NC G (Ri r G) := by
  refine Call_of_J cw_Descent_boundary (by decide +kernel) (Nat.le_of_ble_eq_true rfl) ?_
  unfold f_Descent_boundary at h
  show J X true 11 0 0 M_Descent_boundary (Ri r G) NC 0 0 0 [(0, rf X 30), (1, vi a1), (2, vi a2)] [] G
  refine j_iconst (v := (-1)) (D_Descent_boundary 0 rfl) rfl ?_
  refine j_istoren (L' := [(3, vi (-1)), (0, rf X 30), (1, vi a1), (2, vi a2)]) (D_Descent_boundary 1 rfl) rfl (wr_lit rfl) (by decide) rfl ?_
  refine j_iconst (v := 0) (D_Descent_boundary 2 rfl) rfl ?_
  refine j_istore (L' := [(4, vi 0), (3, vi (-1)), (0, rf X 30), (1, vi a1), (2, vi a2)]) (D_Descent_boundary 3 rfl) (wr_lit rfl) (by decide) rfl ?_
  refine j_loc [2, 3, 4, 1, 0] rfl ?_
  exact s_Descent_boundary_L5 FU (ha1) (ha2) (wr_lit rfl) (wr_lit rfl) h
abbrev M_Descent_addParts : MI := (⟨"InquestHall$Descent", "addParts", "(II)V"⟩, prog_2_method_14_code, 6, none)
theorem cw_Descent_addParts : Cond.code M_Descent_addParts.1 M_Descent_addParts.2.1 M_Descent_addParts.2.2.1 M_Descent_addParts.2.2.2 ∈ TS := mTS (List.mem_of_getElem? (i := 1009) (by decide +kernel)) (by decide +kernel)
theorem lk_Descent_101 : Cond.methodLink "InquestHall$Descent" 101 M_Integer_bitCount.1 ∈ TS := mTS (List.mem_of_getElem? (i := 1010) (by decide +kernel)) (by decide +kernel)
def tb_Descent_addParts : List (Nat × Instr × Nat) := [(0, .iconst 0, 1), (1, .istore_n 3, 1), (2, .iload_n 3, 1), (3, .aload_n 0, 1), (4, .getfield 27, 3), (7, .getfield 31, 3), (10, .if_icmp .ge 106, 3), (13, .iload_n 2, 1), (14, .iconst 1, 1), (15, .iload_n 3, 1), (16, .ishl, 1), (17, .iand, 1), (18, .ifCond .eq 92, 3), (21, .aload_n 0, 1), (22, .getfield 20, 3), (25, .iload_n 3, 1), (26, .laload, 1), (27, .lconst 0, 1), (28, .lcmp, 1), (29, .ifCond .eq 81, 3), (32, .aload_n 0, 1), (33, .getfield 24, 3), (36, .iload_n 1, 1), (37, .laload, 1), (38, .aload_n 0, 1), (39, .getfield 24, 3), (42, .iload_n 3, 1), (43, .laload, 1), (44, .invokestatic 97, 3), (47, .lstore 4, 2), (49, .aload_n 0, 1), (50, .getfield 20, 3), (53, .iload_n 1, 1), (54, .aload_n 0, 1), (55, .getfield 20, 3), (58, .iload_n 1, 1), (59, .laload, 1), (60, .aload_n 0, 1), (61, .getfield 24, 3), (64, .iload_n 3, 1), (65, .laload, 1), (66, .lload 4, 2), (68, .ldiv, 1), (69, .lmul, 1), (70, .aload_n 0, 1), (71, .getfield 20, 3), (74, .iload_n 3, 1), (75, .laload, 1), (76, .aload_n 0, 1), (77, .getfield 24, 3), (80, .iload_n 1, 1), (81, .laload, 1), (82, .lload 4, 2), (84, .ldiv, 1), (85, .lmul, 1), (86, .ladd, 1), (87, .lastore, 1), (88, .aload_n 0, 1), (89, .getfield 24, 3), (92, .iload_n 1, 1), (93, .aload_n 0, 1), (94, .getfield 24, 3), (97, .iload_n 1, 1), (98, .laload, 1), (99, .lload 4, 2), (101, .ldiv, 1), (102, .aload_n 0, 1), (103, .getfield 24, 3), (106, .iload_n 3, 1), (107, .laload, 1), (108, .lmul, 1), (109, .lastore, 1), (110, .iinc 3 1, 3), (113, .goto (-111), 3), (116, .aload_n 0, 1), (117, .getfield 24, 3), (120, .iload_n 1, 1), (121, .dup2, 1), (122, .laload, 1), (123, .iload_n 2, 1), (124, .invokestatic 101, 3), (127, .i2l, 1), (128, .lmul, 1), (129, .lastore, 1), (130, .aload_n 0, 1), (131, .getfield 20, 3), (134, .iload_n 1, 1), (135, .laload, 1), (136, .aload_n 0, 1), (137, .getfield 24, 3), (140, .iload_n 1, 1), (141, .laload, 1), (142, .invokestatic 97, 3), (145, .lstore_n 3, 1), (146, .aload_n 0, 1), (147, .getfield 20, 3), (150, .iload_n 1, 1), (151, .dup2, 1), (152, .laload, 1), (153, .lload_n 3, 1), (154, .ldiv, 1), (155, .lastore, 1), (156, .aload_n 0, 1), (157, .getfield 24, 3), (160, .iload_n 1, 1), (161, .dup2, 1), (162, .laload, 1), (163, .lload_n 3, 1), (164, .ldiv, 1), (165, .lastore, 1), (166, .return_, 1)]
theorem D_Descent_addParts (i : Nat) {pc len : Nat} {ins : Instr} (hi : tb_Descent_addParts[i]? = some (pc, ins, len)) : decode M_Descent_addParts.2.1 pc = .ok (ins, len) := dec_of (by decide +kernel) i hi
def f_Descent_addParts_L110 (k2 : GS → Int → Int → Int → Option (GS)) (G : GS) (x1 : Int) (x2 : Int) (x3 : Int) : Option (GS) :=
  k2 G x1 x2 (wr (x3 + 1))
theorem s_Descent_addParts_L110 {X : XT} {r : GS} {k2 : GS → Int → Int → Int → Option (GS)} (hk2 : ∀ {G : GS} {x1 : Int} {x2 : Int} {x3 : Int} , wr x1 = x1 → wr x2 = x2 → wr x3 = x3 → k2 G x1 x2 x3 = some r → J X true 10 0 0 M_Descent_addParts (Rv r) NC 0 0 2 [(0, rf X 30), (1, vi x1), (2, vi x2), (3, vi x3)] [] G) : ∀ {G : GS} {x1 : Int} {x2 : Int} {x3 : Int}, wr x1 = x1 → wr x2 = x2 → wr x3 = x3 → f_Descent_addParts_L110 k2 G x1 x2 x3 = some r → J X true 10 0 0 M_Descent_addParts (Rv r) NC 0 0 110 [(0, rf X 30), (1, vi x1), (2, vi x2), (3, vi x3)] [] G := by
  intro G x1 x2 x3 hx1 hx2 hx3 h
  unfold f_Descent_addParts_L110 at h
  refine j_iinc (k := 3) (L' := [(3, vi (wr (x3 + 1))), (0, rf X 30), (1, vi x1), (2, vi x2)]) (D_Descent_addParts 72 rfl) rfl rfl (by decide) rfl ?_
  refine j_goto (tgt := 2) (D_Descent_addParts 73 rfl) rfl ?_
  refine j_loc [1, 2, 3, 0] rfl ?_
  exact hk2 (hx1) (hx2) (wr_wr _) h
def f_Descent_addParts_L2 : Nat → GS → Int → Int → Int → Option (GS)
  | 0, _, _, _, _ => none
  | n + 1, G, x1, x2, x3 =>
    if gi G 1 7 ≤ x3 then
      gd (0 ≤ x1 ∧ x1 < 33) <|
      (f_Integer_bitCount G x2).bind fun q1 =>
      gd (0 ≤ x1 ∧ x1 < 33) <|
      wG (sl G 34 x1.toNat ((gl G 34 x1.toNat) * q1)) fun G1 =>
      gd (0 ≤ x1 ∧ x1 < 33) <|
      gd (0 ≤ x1 ∧ x1 < 33) <|
      (f_Descent_commonPart G1 (gl G1 33 x1.toNat) (gl G1 34 x1.toNat)).bind fun q2 =>
      gd (0 ≤ x1 ∧ x1 < 33) <|
      gd (¬ q2 = 0) <|
      gd (0 ≤ x1 ∧ x1 < 33) <|
      wG (sl G1 33 x1.toNat (ldv (gl G1 33 x1.toNat) q2)) fun G2 =>
      gd (0 ≤ x1 ∧ x1 < 33) <|
      gd (¬ q2 = 0) <|
      gd (0 ≤ x1 ∧ x1 < 33) <|
      wG (sl G2 34 x1.toNat (ldv (gl G2 34 x1.toNat) q2)) fun G3 =>
      some G3
    else
      if bAnd x2 (bShl 1 x3) = 0 then
        f_Descent_addParts_L110 (f_Descent_addParts_L2 n) G x1 x2 x3
      else
        gd (0 ≤ x3 ∧ x3 < 33) <|
        if lc (gl G 33 x3.toNat) 0 = 0 then
          f_Descent_addParts_L110 (f_Descent_addParts_L2 n) G x1 x2 x3
        else
          gd (0 ≤ x1 ∧ x1 < 33) <|
          gd (0 ≤ x3 ∧ x3 < 33) <|
          (f_Descent_commonPart G (gl G 34 x1.toNat) (gl G 34 x3.toNat)).bind fun q3 =>
          gd (0 ≤ x1 ∧ x1 < 33) <|
          gd (0 ≤ x3 ∧ x3 < 33) <|
          gd (¬ q3 = 0) <|
          gd (0 ≤ x3 ∧ x3 < 33) <|
          gd (0 ≤ x1 ∧ x1 < 33) <|
          gd (¬ q3 = 0) <|
          gd (0 ≤ x1 ∧ x1 < 33) <|
          wG (sl G 33 x1.toNat (((gl G 33 x1.toNat) * (ldv (gl G 34 x3.toNat) q3)) + ((gl G 33 x3.toNat) * (ldv (gl G 34 x1.toNat) q3)))) fun G4 =>
          gd (0 ≤ x1 ∧ x1 < 33) <|
          gd (¬ q3 = 0) <|
          gd (0 ≤ x3 ∧ x3 < 33) <|
          gd (0 ≤ x1 ∧ x1 < 33) <|
          wG (sl G4 34 x1.toNat ((ldv (gl G4 34 x1.toNat) q3) * (gl G4 34 x3.toNat))) fun G5 =>
          f_Descent_addParts_L110 (f_Descent_addParts_L2 n) G5 x1 x2 x3
theorem s_Descent_addParts_L2 {X : XT} {r : GS} : ∀ (n : Nat) {G : GS} {x1 : Int} {x2 : Int} {x3 : Int}, wr x1 = x1 → wr x2 = x2 → wr x3 = x3 → f_Descent_addParts_L2 n G x1 x2 x3 = some r → J X true 10 0 0 M_Descent_addParts (Rv r) NC 0 0 2 [(0, rf X 30), (1, vi x1), (2, vi x2), (3, vi x3)] [] G := by
  intro n
  induction n with
  | zero =>
    intro G x1 x2 x3 hx1 hx2 hx3 h
    exact none_some h
  | succ n ih =>
    intro G x1 x2 x3 hx1 hx2 hx3 h
    rw [f_Descent_addParts_L2] at h
    refine j_iloadn (k := 3) (D_Descent_addParts 2 rfl) rfl rfl ?_
    refine j_aloadn (k := 0) (D_Descent_addParts 3 rfl) rfl rfl ?_
    refine j_getR rfl fa_Descent_27 kd_30 lc_30 (by decide) rfl fx_30_0 (by decide) (D_Descent_addParts 4 rfl) ?_
    refine j_getI rfl fa_Descent_31 kd_1 lc_1 (by decide) rfl (D_Descent_addParts 5 rfl) ?_
    refine j_ic_ge (tgt := 116) (D_Descent_addParts 6 rfl) rfl (hx3) (wr_gi _ _ _) (fun c1 => ?_) (fun c1 => ?_)
    · replace h := ite_t h c1
      refine j_aloadn (k := 0) (D_Descent_addParts 74 rfl) rfl rfl ?_
      refine j_getR rfl fa_Descent_24 kd_30 lc_30 (by decide) rfl fx_30_7 (by decide) (D_Descent_addParts 75 rfl) ?_
      refine j_iloadn (k := 1) (D_Descent_addParts 76 rfl) rfl rfl ?_
      refine j_dup2 (D_Descent_addParts 77 rfl) rfl rfl ?_
      have g1 := gd_c h
      replace h := gd_s h
      refine j_lald (NI := 33) (D_Descent_addParts 78 rfl) kd_34 lc_34 (hx1) rfl g1.1 g1.2 ?_
      refine j_iloadn (k := 2) (D_Descent_addParts 79 rfl) rfl rfl ?_
      obtain ⟨q1, e1, h⟩ := Option.bind_eq_some_iff.mp h
      refine j_cSi (c_Integer_bitCount (hx2) e1) rfl lk_Descent_101 sok_Integer_bitCount (by decide) rfl rfl (Nat.le_of_ble_eq_true rfl) (D_Descent_addParts 80 rfl) (fun w1 => ?_)
      refine j_i2l (D_Descent_addParts 81 rfl) (w1) ?_
      refine j_lmul (D_Descent_addParts 82 rfl) ?_
      have g2 := gd_c h
      replace h := gd_s h
      refine j_last (NI := 33) (D_Descent_addParts 83 rfl) kd_34 lc_34 (hx1) rfl g2.1 g2.2 ?_
      refine j_gen (fun G1 e2 => ?_)
      replace h := wG_at h e2
      refine j_aloadn (k := 0) (D_Descent_addParts 84 rfl) rfl rfl ?_
      refine j_getR rfl fa_Descent_20 kd_30 lc_30 (by decide) rfl fx_30_6 (by decide) (D_Descent_addParts 85 rfl) ?_
      refine j_iloadn (k := 1) (D_Descent_addParts 86 rfl) rfl rfl ?_
      have g3 := gd_c h
      replace h := gd_s h
      refine j_lald (NI := 33) (D_Descent_addParts 87 rfl) kd_33 lc_33 (hx1) rfl g3.1 g3.2 ?_
      refine j_aloadn (k := 0) (D_Descent_addParts 88 rfl) rfl rfl ?_
      refine j_getR rfl fa_Descent_24 kd_30 lc_30 (by decide) rfl fx_30_7 (by decide) (D_Descent_addParts 89 rfl) ?_
      refine j_iloadn (k := 1) (D_Descent_addParts 90 rfl) rfl rfl ?_
      have g4 := gd_c h
      replace h := gd_s h
      refine j_lald (NI := 33) (D_Descent_addParts 91 rfl) kd_34 lc_34 (hx1) rfl g4.1 g4.2 ?_
      obtain ⟨q2, e3, h⟩ := Option.bind_eq_some_iff.mp h
      refine j_cSl (c_Descent_commonPart (wl_gl _ _ _) (wl_gl _ _ _) e3) rfl lk_Descent_97 sok_Descent_commonPart (by decide) rfl rfl (Nat.le_of_ble_eq_true rfl) (D_Descent_addParts 92 rfl) (fun w2 => ?_)
      refine j_lstoren (L' := [(3, vl q2), (0, rf X 30), (1, vi x1), (2, vi x2)]) (D_Descent_addParts 93 rfl) rfl (w2) (by decide) rfl ?_
      refine j_aloadn (k := 1) (D_Descent_addParts 94 rfl) rfl rfl ?_
      refine j_getR rfl fa_Descent_20 kd_30 lc_30 (by decide) rfl fx_30_6 (by decide) (D_Descent_addParts 95 rfl) ?_
      refine j_iloadn (k := 2) (D_Descent_addParts 96 rfl) rfl rfl ?_
      refine j_dup2 (D_Descent_addParts 97 rfl) rfl rfl ?_
      have g5 := gd_c h
      replace h := gd_s h
      refine j_lald (NI := 33) (D_Descent_addParts 98 rfl) kd_33 lc_33 (hx1) rfl g5.1 g5.2 ?_
      refine j_lloadn (k := 0) (D_Descent_addParts 99 rfl) rfl rfl ?_
      have g6 := gd_c h
      replace h := gd_s h
      refine j_ldiv (D_Descent_addParts 100 rfl) (w2) g6 ?_
      have g7 := gd_c h
      replace h := gd_s h
      refine j_last (NI := 33) (D_Descent_addParts 101 rfl) kd_33 lc_33 (hx1) rfl g7.1 g7.2 ?_
      refine j_gen (fun G2 e4 => ?_)
      replace h := wG_at h e4
      refine j_aloadn (k := 1) (D_Descent_addParts 102 rfl) rfl rfl ?_
      refine j_getR rfl fa_Descent_24 kd_30 lc_30 (by decide) rfl fx_30_7 (by decide) (D_Descent_addParts 103 rfl) ?_
      refine j_iloadn (k := 2) (D_Descent_addParts 104 rfl) rfl rfl ?_
      refine j_dup2 (D_Descent_addParts 105 rfl) rfl rfl ?_
      have g8 := gd_c h
      replace h := gd_s h
      refine j_lald (NI := 33) (D_Descent_addParts 106 rfl) kd_34 lc_34 (hx1) rfl g8.1 g8.2 ?_
      refine j_lloadn (k := 0) (D_Descent_addParts 107 rfl) rfl rfl ?_
      have g9 := gd_c h
      replace h := gd_s h
      refine j_ldiv (D_Descent_addParts 108 rfl) (w2) g9 ?_
      have g10 := gd_c h
      replace h := gd_s h
      refine j_last (NI := 33) (D_Descent_addParts 109 rfl) kd_34 lc_34 (hx1) rfl g10.1 g10.2 ?_
      refine j_gen (fun G3 e5 => ?_)
      replace h := wG_at h e5
      exact j_vret (D_Descent_addParts 110 rfl) rfl rfl rfl (leafV h)
    · replace h := ite_f h c1
      refine j_iloadn (k := 2) (D_Descent_addParts 7 rfl) rfl rfl ?_
      refine j_iconst (v := 1) (D_Descent_addParts 8 rfl) rfl ?_
      refine j_iloadn (k := 3) (D_Descent_addParts 9 rfl) rfl rfl ?_
      refine j_ishl (D_Descent_addParts 10 rfl) ?_
      refine j_iand (D_Descent_addParts 11 rfl) ?_
      refine j_if_eq (tgt := 110) (D_Descent_addParts 12 rfl) rfl (wr_bAnd _ _) (fun c2 => ?_) (fun c2 => ?_)
      · replace h := ite_t h c2
        refine j_loc [0, 1, 2, 3] rfl ?_
        exact s_Descent_addParts_L110 ih (hx1) (hx2) (hx3) h
      · replace h := ite_f h c2
        refine j_aloadn (k := 0) (D_Descent_addParts 13 rfl) rfl rfl ?_
        refine j_getR rfl fa_Descent_20 kd_30 lc_30 (by decide) rfl fx_30_6 (by decide) (D_Descent_addParts 14 rfl) ?_
        refine j_iloadn (k := 3) (D_Descent_addParts 15 rfl) rfl rfl ?_
        have g11 := gd_c h
        replace h := gd_s h
        refine j_lald (NI := 33) (D_Descent_addParts 16 rfl) kd_33 lc_33 (hx3) rfl g11.1 g11.2 ?_
        refine j_lconst (v := 0) (D_Descent_addParts 17 rfl) rfl ?_
        refine j_lcmp (D_Descent_addParts 18 rfl) ?_
        refine j_if_eq (tgt := 110) (D_Descent_addParts 19 rfl) rfl (wr_lc _ _) (fun c3 => ?_) (fun c3 => ?_)
        · replace h := ite_t h c3
          refine j_loc [0, 1, 2, 3] rfl ?_
          exact s_Descent_addParts_L110 ih (hx1) (hx2) (hx3) h
        · replace h := ite_f h c3
          refine j_aloadn (k := 0) (D_Descent_addParts 20 rfl) rfl rfl ?_
          refine j_getR rfl fa_Descent_24 kd_30 lc_30 (by decide) rfl fx_30_7 (by decide) (D_Descent_addParts 21 rfl) ?_
          refine j_iloadn (k := 1) (D_Descent_addParts 22 rfl) rfl rfl ?_
          have g12 := gd_c h
          replace h := gd_s h
          refine j_lald (NI := 33) (D_Descent_addParts 23 rfl) kd_34 lc_34 (hx1) rfl g12.1 g12.2 ?_
          refine j_aloadn (k := 0) (D_Descent_addParts 24 rfl) rfl rfl ?_
          refine j_getR rfl fa_Descent_24 kd_30 lc_30 (by decide) rfl fx_30_7 (by decide) (D_Descent_addParts 25 rfl) ?_
          refine j_iloadn (k := 3) (D_Descent_addParts 26 rfl) rfl rfl ?_
          have g13 := gd_c h
          replace h := gd_s h
          refine j_lald (NI := 33) (D_Descent_addParts 27 rfl) kd_34 lc_34 (hx3) rfl g13.1 g13.2 ?_
          obtain ⟨q3, e6, h⟩ := Option.bind_eq_some_iff.mp h
          refine j_cSl (c_Descent_commonPart (wl_gl _ _ _) (wl_gl _ _ _) e6) rfl lk_Descent_97 sok_Descent_commonPart (by decide) rfl rfl (Nat.le_of_ble_eq_true rfl) (D_Descent_addParts 28 rfl) (fun w3 => ?_)
          refine j_lstore (L' := [(4, vl q3), (0, rf X 30), (1, vi x1), (2, vi x2), (3, vi x3)]) (D_Descent_addParts 29 rfl) (w3) (by decide) rfl ?_
          refine j_aloadn (k := 1) (D_Descent_addParts 30 rfl) rfl rfl ?_
          refine j_getR rfl fa_Descent_20 kd_30 lc_30 (by decide) rfl fx_30_6 (by decide) (D_Descent_addParts 31 rfl) ?_
          refine j_iloadn (k := 2) (D_Descent_addParts 32 rfl) rfl rfl ?_
          refine j_aloadn (k := 1) (D_Descent_addParts 33 rfl) rfl rfl ?_
          refine j_getR rfl fa_Descent_20 kd_30 lc_30 (by decide) rfl fx_30_6 (by decide) (D_Descent_addParts 34 rfl) ?_
          refine j_iloadn (k := 2) (D_Descent_addParts 35 rfl) rfl rfl ?_
          have g14 := gd_c h
          replace h := gd_s h
          refine j_lald (NI := 33) (D_Descent_addParts 36 rfl) kd_33 lc_33 (hx1) rfl g14.1 g14.2 ?_
          refine j_aloadn (k := 1) (D_Descent_addParts 37 rfl) rfl rfl ?_
          refine j_getR rfl fa_Descent_24 kd_30 lc_30 (by decide) rfl fx_30_7 (by decide) (D_Descent_addParts 38 rfl) ?_
          refine j_iloadn (k := 4) (D_Descent_addParts 39 rfl) rfl rfl ?_
          have g15 := gd_c h
          replace h := gd_s h
          refine j_lald (NI := 33) (D_Descent_addParts 40 rfl) kd_34 lc_34 (hx3) rfl g15.1 g15.2 ?_
          refine j_lload (k := 0) (D_Descent_addParts 41 rfl) rfl ?_
          have g16 := gd_c h
          replace h := gd_s h
          refine j_ldiv (D_Descent_addParts 42 rfl) (w3) g16 ?_
          refine j_lmul (D_Descent_addParts 43 rfl) ?_
          refine j_aloadn (k := 1) (D_Descent_addParts 44 rfl) rfl rfl ?_
          refine j_getR rfl fa_Descent_20 kd_30 lc_30 (by decide) rfl fx_30_6 (by decide) (D_Descent_addParts 45 rfl) ?_
          refine j_iloadn (k := 4) (D_Descent_addParts 46 rfl) rfl rfl ?_
          have g17 := gd_c h
          replace h := gd_s h
          refine j_lald (NI := 33) (D_Descent_addParts 47 rfl) kd_33 lc_33 (hx3) rfl g17.1 g17.2 ?_
          refine j_aloadn (k := 1) (D_Descent_addParts 48 rfl) rfl rfl ?_
          refine j_getR rfl fa_Descent_24 kd_30 lc_30 (by decide) rfl fx_30_7 (by decide) (D_Descent_addParts 49 rfl) ?_
          refine j_iloadn (k := 2) (D_Descent_addParts 50 rfl) rfl rfl ?_
          have g18 := gd_c h
          replace h := gd_s h
          refine j_lald (NI := 33) (D_Descent_addParts 51 rfl) kd_34 lc_34 (hx1) rfl g18.1 g18.2 ?_
          refine j_lload (k := 0) (D_Descent_addParts 52 rfl) rfl ?_
          have g19 := gd_c h
          replace h := gd_s h
          refine j_ldiv (D_Descent_addParts 53 rfl) (w3) g19 ?_
          refine j_lmul (D_Descent_addParts 54 rfl) ?_
          refine j_ladd (D_Descent_addParts 55 rfl) ?_
          have g20 := gd_c h
          replace h := gd_s h
          refine j_last (NI := 33) (D_Descent_addParts 56 rfl) kd_33 lc_33 (hx1) rfl g20.1 g20.2 ?_
          refine j_gen (fun G4 e7 => ?_)
          replace h := wG_at h e7
          refine j_aloadn (k := 1) (D_Descent_addParts 57 rfl) rfl rfl ?_
          refine j_getR rfl fa_Descent_24 kd_30 lc_30 (by decide) rfl fx_30_7 (by decide) (D_Descent_addParts 58 rfl) ?_
          refine j_iloadn (k := 2) (D_Descent_addParts 59 rfl) rfl rfl ?_
          refine j_aloadn (k := 1) (D_Descent_addParts 60 rfl) rfl rfl ?_
          refine j_getR rfl fa_Descent_24 kd_30 lc_30 (by decide) rfl fx_30_7 (by decide) (D_Descent_addParts 61 rfl) ?_
          refine j_iloadn (k := 2) (D_Descent_addParts 62 rfl) rfl rfl ?_
          have g21 := gd_c h
          replace h := gd_s h
          refine j_lald (NI := 33) (D_Descent_addParts 63 rfl) kd_34 lc_34 (hx1) rfl g21.1 g21.2 ?_
          refine j_lload (k := 0) (D_Descent_addParts 64 rfl) rfl ?_
          have g22 := gd_c h
          replace h := gd_s h
          refine j_ldiv (D_Descent_addParts 65 rfl) (w3) g22 ?_
          refine j_aloadn (k := 1) (D_Descent_addParts 66 rfl) rfl rfl ?_
          refine j_getR rfl fa_Descent_24 kd_30 lc_30 (by decide) rfl fx_30_7 (by decide) (D_Descent_addParts 67 rfl) ?_
          refine j_iloadn (k := 4) (D_Descent_addParts 68 rfl) rfl rfl ?_
          have g23 := gd_c h
          replace h := gd_s h
          refine j_lald (NI := 33) (D_Descent_addParts 69 rfl) kd_34 lc_34 (hx3) rfl g23.1 g23.2 ?_
          refine j_lmul (D_Descent_addParts 70 rfl) ?_
          have g24 := gd_c h
          replace h := gd_s h
          refine j_last (NI := 33) (D_Descent_addParts 71 rfl) kd_34 lc_34 (hx1) rfl g24.1 g24.2 ?_
          refine j_gen (fun G5 e8 => ?_)
          replace h := wG_at h e8
          refine j_loc [1, 2, 3, 4] rfl ?_
          exact s_Descent_addParts_L110 ih (hx1) (hx2) (hx3) h
def f_Descent_addParts (G : GS) (a1 : Int) (a2 : Int) : Option (GS) :=
  f_Descent_addParts_L2 FU G a1 a2 0
theorem c_Descent_addParts {X : XT} {G : GS} {a1 : Int} {a2 : Int} {r : GS} (ha1 : wr a1 = a1) (ha2 : wr a2 = a2) (h : f_Descent_addParts G a1 a2 = some r) : Call X true 10 0 0 M_Descent_addParts [rf X 30, vi a1, vi a2] NC G (Rv r) := by
  refine Call_of_J cw_Descent_addParts (by decide +kernel) (Nat.le_of_ble_eq_true rfl) ?_
  unfold f_Descent_addParts at h
  show J X true 10 0 0 M_Descent_addParts (Rv r) NC 0 0 0 [(0, rf X 30), (1, vi a1), (2, vi a2)] [] G
  refine j_iconst (v := 0) (D_Descent_addParts 0 rfl) rfl ?_
  refine j_istoren (L' := [(3, vi 0), (0, rf X 30), (1, vi a1), (2, vi a2)]) (D_Descent_addParts 1 rfl) rfl (wr_lit rfl) (by decide) rfl ?_
  refine j_loc [1, 2, 3, 0] rfl ?_
  exact s_Descent_addParts_L2 FU (ha1) (ha2) (wr_lit rfl) h
abbrev M_Descent_partOf : MI := (⟨"InquestHall$Descent", "partOf", "(III)V"⟩, prog_2_method_13_code, 6, none)
theorem cw_Descent_partOf : Cond.code M_Descent_partOf.1 M_Descent_partOf.2.1 M_Descent_partOf.2.2.1 M_Descent_partOf.2.2.2 ∈ TS := mTS (List.mem_of_getElem? (i := 987) (by decide +kernel)) (by decide +kernel)
theorem lk_Descent_93 : Cond.methodLink "InquestHall$Descent" 93 M_Descent_addParts.1 ∈ TS := mTS (List.mem_of_getElem? (i := 1006) (by decide +kernel)) (by decide +kernel)
theorem mok_Descent_addParts : MOK M_Descent_addParts 2 := ⟨mTS (List.mem_of_getElem? (i := 1008) (by decide +kernel)) (by decide +kernel), mTS (List.mem_of_getElem? (i := 34) (by decide +kernel)) (by decide +kernel), mTS (List.mem_of_getElem? (i := 134) (by decide +kernel)) (by decide +kernel), cw_Descent_addParts, ⟨by decide, by decide, by decide +kernel⟩, by decide +kernel, by decide⟩
theorem lk_Descent_90 : Cond.methodLink "InquestHall$Descent" 90 M_Descent_boundary.1 ∈ TS := mTS (List.mem_of_getElem? (i := 988) (by decide +kernel)) (by decide +kernel)
theorem mok_Descent_boundary : MOK M_Descent_boundary 2 := ⟨mTS (List.mem_of_getElem? (i := 990) (by decide +kernel)) (by decide +kernel), mTS (List.mem_of_getElem? (i := 31) (by decide +kernel)) (by decide +kernel), mTS (List.mem_of_getElem? (i := 134) (by decide +kernel)) (by decide +kernel), cw_Descent_boundary, ⟨by decide, by decide, by decide +kernel⟩, by decide +kernel, by decide⟩
def tb_Descent_partOf : List (Nat × Instr × Nat) := [(0, .aload_n 0, 1), (1, .getfield 17, 3), (4, .iload_n 1, 1), (5, .iaload, 1), (6, .istore 4, 2), (8, .aload_n 0, 1), (9, .getfield 20, 3), (12, .iload_n 1, 1), (13, .iload 4, 2), (15, .ifCond .ne 19, 3), (18, .aload_n 0, 1), (19, .getfield 11, 3), (22, .iload_n 1, 1), (23, .iaload, 1), (24, .iconst 1, 1), (25, .iload_n 2, 1), (26, .ishl, 1), (27, .if_icmp .ne 7, 3), (30, .lconst 1, 1), (31, .goto 4, 3), (34, .lconst 0, 1), (35, .lastore, 1), (36, .aload_n 0, 1), (37, .getfield 24, 3), (40, .iload_n 1, 1), (41, .lconst 1, 1), (42, .lastore, 1), (43, .aload_n 0, 1), (44, .iload 4, 2), (46, .invokevirtual 71, 3), (49, .ifCond .eq 54, 3), (52, .iload_n 3, 1), (53, .ifCond .ne 12, 3), (56, .aload_n 0, 1), (57, .iload 4, 2), (59, .invokevirtual 75, 3), (62, .goto 10, 3), (65, .aload_n 0, 1), (66, .iload 4, 2), (68, .iload_n 3, 1), (69, .invokevirtual 90, 3), (72, .istore 5, 2), (74, .aload_n 0, 1), (75, .getfield 20, 3), (78, .iload_n 1, 1), (79, .aload_n 0, 1), (80, .getfield 20, 3), (83, .iload 5, 2), (85, .laload, 1), (86, .lastore, 1), (87, .aload_n 0, 1), (88, .getfield 24, 3), (91, .iload_n 1, 1), (92, .aload_n 0, 1), (93, .getfield 24, 3), (96, .iload 5, 2), (98, .laload, 1), (99, .lastore, 1), (100, .goto 15, 3), (103, .iload 4, 2), (105, .ifCond .eq 10, 3), (108, .aload_n 0, 1), (109, .iload_n 1, 1), (110, .iload 4, 2), (112, .invokevirtual 93, 3), (115, .return_, 1)]
theorem D_Descent_partOf (i : Nat) {pc len : Nat} {ins : Instr} (hi : tb_Descent_partOf[i]? = some (pc, ins, len)) : decode M_Descent_partOf.2.1 pc = .ok (ins, len) := dec_of (by decide +kernel) i hi
def f_Descent_partOf_L72 (G : GS) (x1 : Int) (s0 : Int) : Option (GS) :=
  gd (0 ≤ s0 ∧ s0 < 33) <|
  gd (0 ≤ x1 ∧ x1 < 33) <|
  wG (sl G 33 x1.toNat (gl G 33 s0.toNat)) fun G1 =>
  gd (0 ≤ s0 ∧ s0 < 33) <|
  gd (0 ≤ x1 ∧ x1 < 33) <|
  wG (sl G1 34 x1.toNat (gl G1 34 s0.toNat)) fun G2 =>
  some G2
theorem s_Descent_partOf_L72 {X : XT} {r : GS} : ∀ {G : GS} {x1 : Int} {s0 : Int}, wr x1 = x1 → wr s0 = s0 → f_Descent_partOf_L72 G x1 s0 = some r → J X true 12 0 0 M_Descent_partOf (Rv r) NC 0 0 72 [(0, rf X 30), (1, vi x1)] [vi s0] G := by
  intro G x1 s0 hx1 hs0 h
  unfold f_Descent_partOf_L72 at h
  refine j_istore (L' := [(5, vi s0), (0, rf X 30), (1, vi x1)]) (D_Descent_partOf 41 rfl) (hs0) (by decide) rfl ?_
  refine j_aloadn (k := 1) (D_Descent_partOf 42 rfl) rfl rfl ?_
  refine j_getR rfl fa_Descent_20 kd_30 lc_30 (by decide) rfl fx_30_6 (by decide) (D_Descent_partOf 43 rfl) ?_
  refine j_iloadn (k := 2) (D_Descent_partOf 44 rfl) rfl rfl ?_
  refine j_aloadn (k := 1) (D_Descent_partOf 45 rfl) rfl rfl ?_
  refine j_getR rfl fa_Descent_20 kd_30 lc_30 (by decide) rfl fx_30_6 (by decide) (D_Descent_partOf 46 rfl) ?_
  refine j_iload (k := 0) (D_Descent_partOf 47 rfl) rfl ?_
  have g1 := gd_c h
  replace h := gd_s h
  refine j_lald (NI := 33) (D_Descent_partOf 48 rfl) kd_33 lc_33 (hs0) rfl g1.1 g1.2 ?_
  have g2 := gd_c h
  replace h := gd_s h
  refine j_last (NI := 33) (D_Descent_partOf 49 rfl) kd_33 lc_33 (hx1) rfl g2.1 g2.2 ?_
  refine j_gen (fun G1 e1 => ?_)
  replace h := wG_at h e1
  refine j_aloadn (k := 1) (D_Descent_partOf 50 rfl) rfl rfl ?_
  refine j_getR rfl fa_Descent_24 kd_30 lc_30 (by decide) rfl fx_30_7 (by decide) (D_Descent_partOf 51 rfl) ?_
  refine j_iloadn (k := 2) (D_Descent_partOf 52 rfl) rfl rfl ?_
  refine j_aloadn (k := 1) (D_Descent_partOf 53 rfl) rfl rfl ?_
  refine j_getR rfl fa_Descent_24 kd_30 lc_30 (by decide) rfl fx_30_7 (by decide) (D_Descent_partOf 54 rfl) ?_
  refine j_iload (k := 0) (D_Descent_partOf 55 rfl) rfl ?_
  have g3 := gd_c h
  replace h := gd_s h
  refine j_lald (NI := 33) (D_Descent_partOf 56 rfl) kd_34 lc_34 (hs0) rfl g3.1 g3.2 ?_
  have g4 := gd_c h
  replace h := gd_s h
  refine j_last (NI := 33) (D_Descent_partOf 57 rfl) kd_34 lc_34 (hx1) rfl g4.1 g4.2 ?_
  refine j_gen (fun G2 e2 => ?_)
  replace h := wG_at h e2
  refine j_goto (tgt := 115) (D_Descent_partOf 58 rfl) rfl ?_
  exact j_vret (D_Descent_partOf 65 rfl) rfl rfl rfl (leafV h)
def f_Descent_partOf_L35 (G : GS) (x1 : Int) (x3 : Int) (x4 : Int) (s0 : Int) (s1 : Int) : Option (GS) :=
  gd (0 ≤ s1 ∧ s1 < 33) <|
  wG (sl G 33 s1.toNat s0) fun G1 =>
  gd (0 ≤ x1 ∧ x1 < 33) <|
  wG (sl G1 34 x1.toNat 1) fun G2 =>
  (f_Descent_oneTakesAll G2 x4).bind fun q1 =>
  if q1 = 0 then
    if x4 = 0 then
      some G2
    else
      (f_Descent_addParts G2 x1 x4).bind fun q2 =>
      some q2
  else
    if x3 = 0 then
      (f_Descent_chosen G2 x4).bind fun q4 =>
      f_Descent_partOf_L72 G2 x1 q4
    else
      (f_Descent_boundary G2 x4 x3).bind fun q3 =>
      f_Descent_partOf_L72 G2 x1 q3
theorem s_Descent_partOf_L35 {X : XT} {r : GS} : ∀ {G : GS} {x1 : Int} {x3 : Int} {x4 : Int} {s0 : Int} {s1 : Int}, wr x1 = x1 → wr x3 = x3 → wr x4 = x4 → wl s0 = s0 → wr s1 = s1 → f_Descent_partOf_L35 G x1 x3 x4 s0 s1 = some r → J X true 12 0 0 M_Descent_partOf (Rv r) NC 0 0 35 [(0, rf X 30), (1, vi x1), (3, vi x3), (4, vi x4)] [vl s0, vi s1, rf X 33] G := by
  intro G x1 x3 x4 s0 s1 hx1 hx3 hx4 hs0 hs1 h
  unfold f_Descent_partOf_L35 at h
  have g1 := gd_c h
  replace h := gd_s h
  refine j_last (NI := 33) (D_Descent_partOf 21 rfl) kd_33 lc_33 (hs1) rfl g1.1 g1.2 ?_
  refine j_gen (fun G1 e1 => ?_)
  replace h := wG_at h e1
  refine j_aloadn (k := 0) (D_Descent_partOf 22 rfl) rfl rfl ?_
  refine j_getR rfl fa_Descent_24 kd_30 lc_30 (by decide) rfl fx_30_7 (by decide) (D_Descent_partOf 23 rfl) ?_
  refine j_iloadn (k := 1) (D_Descent_partOf 24 rfl) rfl rfl ?_
  refine j_lconst (v := 1) (D_Descent_partOf 25 rfl) rfl ?_
  have g2 := gd_c h
  replace h := gd_s h
  refine j_last (NI := 33) (D_Descent_partOf 26 rfl) kd_34 lc_34 (hx1) rfl g2.1 g2.2 ?_
  refine j_gen (fun G2 e2 => ?_)
  replace h := wG_at h e2
  refine j_aloadn (k := 0) (D_Descent_partOf 27 rfl) rfl rfl ?_
  refine j_iload (k := 3) (D_Descent_partOf 28 rfl) rfl ?_
  obtain ⟨q1, e3, h⟩ := Option.bind_eq_some_iff.mp h
  refine j_cVz (c_Descent_oneTakesAll (hx4) e3) rfl lk_Descent_71 mok_Descent_oneTakesAll kd_30 lc_30 rfl (by decide) rfl rfl (Nat.le_of_ble_eq_true rfl) (D_Descent_partOf 29 rfl) (fun w1 bw1 => ?_)
  refine j_if_eq (tgt := 103) (D_Descent_partOf 30 rfl) rfl (w1) (fun c1 => ?_) (fun c1 => ?_)
  · replace h := ite_t h c1
    refine j_iload (k := 3) (D_Descent_partOf 59 rfl) rfl ?_
    refine j_if_eq (tgt := 115) (D_Descent_partOf 60 rfl) rfl (hx4) (fun c2 => ?_) (fun c2 => ?_)
    · replace h := ite_t h c2
      exact j_vret (D_Descent_partOf 65 rfl) rfl rfl rfl (leafV h)
    · replace h := ite_f h c2
      refine j_aloadn (k := 0) (D_Descent_partOf 61 rfl) rfl rfl ?_
      refine j_iloadn (k := 1) (D_Descent_partOf 62 rfl) rfl rfl ?_
      refine j_iload (k := 3) (D_Descent_partOf 63 rfl) rfl ?_
      obtain ⟨q2, e4, h⟩ := Option.bind_eq_some_iff.mp h
      refine j_cVv (c_Descent_addParts (hx1) (hx4) e4) rfl lk_Descent_93 mok_Descent_addParts kd_30 lc_30 rfl (by decide) rfl rfl (Nat.le_of_ble_eq_true rfl) (D_Descent_partOf 64 rfl) ?_
      exact j_vret (D_Descent_partOf 65 rfl) rfl rfl rfl (leafV h)
  · replace h := ite_f h c1
    refine j_iloadn (k := 2) (D_Descent_partOf 31 rfl) rfl rfl ?_
    refine j_if_ne (tgt := 65) (D_Descent_partOf 32 rfl) rfl (hx3) (fun c3 => ?_) (fun c3 => ?_)
    · replace h := ite_f h c3
      refine j_aloadn (k := 0) (D_Descent_partOf 37 rfl) rfl rfl ?_
      refine j_iload (k := 3) (D_Descent_partOf 38 rfl) rfl ?_
      refine j_iloadn (k := 2) (D_Descent_partOf 39 rfl) rfl rfl ?_
      obtain ⟨q3, e5, h⟩ := Option.bind_eq_some_iff.mp h
      refine j_cVi (c_Descent_boundary (hx4) (hx3) e5) rfl lk_Descent_90 mok_Descent_boundary kd_30 lc_30 rfl (by decide) rfl rfl (Nat.le_of_ble_eq_true rfl) (D_Descent_partOf 40 rfl) (fun w2 => ?_)
      refine j_loc [0, 1] rfl ?_
      exact s_Descent_partOf_L72 (hx1) (w2) h
    · replace h := ite_t h c3
      refine j_aloadn (k := 0) (D_Descent_partOf 33 rfl) rfl rfl ?_
      refine j_iload (k := 3) (D_Descent_partOf 34 rfl) rfl ?_
      obtain ⟨q4, e6, h⟩ := Option.bind_eq_some_iff.mp h
      refine j_cVi (c_Descent_chosen (hx4) e6) rfl lk_Descent_75 mok_Descent_chosen kd_30 lc_30 rfl (by decide) rfl rfl (Nat.le_of_ble_eq_true rfl) (D_Descent_partOf 35 rfl) (fun w3 => ?_)
      refine j_goto (tgt := 72) (D_Descent_partOf 36 rfl) rfl ?_
      refine j_loc [0, 1] rfl ?_
      exact s_Descent_partOf_L72 (hx1) (w3) h
def f_Descent_partOf_L34 (G : GS) (x1 : Int) (x3 : Int) (x4 : Int) (s0 : Int) : Option (GS) :=
  f_Descent_partOf_L35 G x1 x3 x4 0 s0
theorem s_Descent_partOf_L34 {X : XT} {r : GS} : ∀ {G : GS} {x1 : Int} {x3 : Int} {x4 : Int} {s0 : Int}, wr x1 = x1 → wr x3 = x3 → wr x4 = x4 → wr s0 = s0 → f_Descent_partOf_L34 G x1 x3 x4 s0 = some r → J X true 12 0 0 M_Descent_partOf (Rv r) NC 0 0 34 [(0, rf X 30), (1, vi x1), (3, vi x3), (4, vi x4)] [vi s0, rf X 33] G := by
  intro G x1 x3 x4 s0 hx1 hx3 hx4 hs0 h
  unfold f_Descent_partOf_L34 at h
  refine j_lconst (v := 0) (D_Descent_partOf 20 rfl) rfl ?_
  refine j_loc [0, 1, 2, 3] rfl ?_
  exact s_Descent_partOf_L35 (hx1) (hx3) (hx4) (wl_lit rfl) (hs0) h
def f_Descent_partOf (G : GS) (a1 : Int) (a2 : Int) (a3 : Int) : Option (GS) :=
  gd (0 ≤ a1 ∧ a1 < 33) <|
  if gi G 32 a1.toNat = 0 then
    gd (0 ≤ a1 ∧ a1 < 33) <|
    if gi G 31 a1.toNat = bShl 1 a2 then
      f_Descent_partOf_L35 G a1 a3 (gi G 32 a1.toNat) 1 a1
    else
      f_Descent_partOf_L34 G a1 a3 (gi G 32 a1.toNat) a1
  else
    f_Descent_partOf_L34 G a1 a3 (gi G 32 a1.toNat) a1
theorem c_Descent_partOf {X : XT} {G : GS} {a1 : Int} {a2 : Int} {a3 : Int} {r : GS} (ha1 : wr a1 = a1) (ha2 : wr a2 = a2) (ha3 : wr a3 = a3) (h : f_Descent_partOf G a1 a2 a3 = some r) : Call X true 12 0 0 M_Descent_partOf [rf X 30, vi a1, vi a2, vi a3] NC G (Rv r) := by
  refine Call_of_J cw_Descent_partOf (by decide +kernel) (Nat.le_of_ble_eq_true rfl) ?_
  unfold f_Descent_partOf at h
  show J X true 12 0 0 M_Descent_partOf (Rv r) NC 0 0 0 [(0, rf X 30), (1, vi a1), (2, vi a2), (3, vi a3)] [] G
  refine j_aloadn (k := 0) (D_Descent_partOf 0 rfl) rfl rfl ?_
  refine j_getR rfl fa_Descent_17 kd_30 lc_30 (by decide) rfl fx_30_5 (by decide) (D_Descent_partOf 1 rfl) ?_
  refine j_iloadn (k := 1) (D_Descent_partOf 2 rfl) rfl rfl ?_
  have g1 := gd_c h
  replace h := gd_s h
  refine j_iald (NI := 33) (D_Descent_partOf 3 rfl) kd_32 lc_32 (ha1) rfl g1.1 g1.2 ?_
  refine j_istore (L' := [(4, vi (gi G 32 a1.toNat)), (0, rf X 30), (1, vi a1), (2, vi a2), (3, vi a3)]) (D_Descent_partOf 4 rfl) (wr_gi _ _ _) (by decide) rfl ?_
  refine j_aloadn (k := 1) (D_Descent_partOf 5 rfl) rfl rfl ?_
  refine j_getR rfl fa_Descent_20 kd_30 lc_30 (by decide) rfl fx_30_6 (by decide) (D_Descent_partOf 6 rfl) ?_
  refine j_iloadn (k := 2) (D_Descent_partOf 7 rfl) rfl rfl ?_
  refine j_iload (k := 0) (D_Descent_partOf 8 rfl) rfl ?_
  refine j_if_ne (tgt := 34) (D_Descent_partOf 9 rfl) rfl (wr_gi _ _ _) (fun c1 => ?_) (fun c1 => ?_)
  · replace h := ite_f h c1
    refine j_loc [1, 2, 4, 0] rfl ?_
    exact s_Descent_partOf_L34 (ha1) (ha3) (wr_gi _ _ _) (ha1) h
  · replace h := ite_t h c1
    refine j_aloadn (k := 1) (D_Descent_partOf 10 rfl) rfl rfl ?_
    refine j_getR rfl fa_Descent_11 kd_30 lc_30 (by decide) rfl fx_30_4 (by decide) (D_Descent_partOf 11 rfl) ?_
    refine j_iloadn (k := 2) (D_Descent_partOf 12 rfl) rfl rfl ?_
    have g2 := gd_c h
    replace h := gd_s h
    refine j_iald (NI := 33) (D_Descent_partOf 13 rfl) kd_31 lc_31 (ha1) rfl g2.1 g2.2 ?_
    refine j_iconst (v := 1) (D_Descent_partOf 14 rfl) rfl ?_
    refine j_iloadn (k := 3) (D_Descent_partOf 15 rfl) rfl rfl ?_
    refine j_ishl (D_Descent_partOf 16 rfl) ?_
    refine j_ic_ne (tgt := 34) (D_Descent_partOf 17 rfl) rfl (wr_gi _ _ _) (wr_bShl _ _) (fun c2 => ?_) (fun c2 => ?_)
    · replace h := ite_f h c2
      refine j_loc [1, 2, 4, 0] rfl ?_
      exact s_Descent_partOf_L34 (ha1) (ha3) (wr_gi _ _ _) (ha1) h
    · replace h := ite_t h c2
      refine j_lconst (v := 1) (D_Descent_partOf 18 rfl) rfl ?_
      refine j_goto (tgt := 35) (D_Descent_partOf 19 rfl) rfl ?_
      refine j_loc [1, 2, 4, 0] rfl ?_
      exact s_Descent_partOf_L35 (ha1) (ha3) (wr_gi _ _ _) (wl_lit rfl) (ha1) h
