/-! printed by wip/whole/gen.py out of the listing of the bytecode -/
theorem lk_Model_356 : Cond.methodLink "InquestHallModel" 356 M_Model_product.1 ∈ TS := mTS (List.mem_of_getElem? (i := 1743) (by decide +kernel)) (by decide +kernel)
theorem mok_Model_product : MOK M_Model_product 0 := ⟨mTS (List.mem_of_getElem? (i := 1745) (by decide +kernel)) (by decide +kernel), mTS (List.mem_of_getElem? (i := 79) (by decide +kernel)) (by decide +kernel), mTS (List.mem_of_getElem? (i := 139) (by decide +kernel)) (by decide +kernel), cw_Model_product, ⟨by decide, by decide, by decide +kernel⟩, by decide +kernel, by decide⟩
def tb_Model_sumOf : List (Nat × Instr × Nat) := [(0, .aload_n 0, 1), (1, .invokevirtual 356, 3), (4, .ifCond .ne 5, 3), (7, .iconst 0, 1), (8, .ireturn, 1), (9, .aload_n 0, 1), (10, .getfield 314, 3), (13, .bipush 43, 2), (15, .if_icmp .eq 12, 3), (18, .aload_n 0, 1), (19, .getfield 314, 3), (22, .bipush 45, 2), (24, .if_icmp .ne 42, 3), (27, .aload_n 0, 1), (28, .getfield 314, 3), (31, .bipush 43, 2), (33, .if_icmp .ne 8, 3), (36, .bipush 8, 2), (38, .goto 5, 3), (41, .bipush 9, 2), (43, .istore_n 1, 1), (44, .aload_n 0, 1), (45, .invokevirtual 344, 3), (48, .aload_n 0, 1), (49, .invokevirtual 356, 3), (52, .ifCond .ne 5, 3), (55, .iconst 0, 1), (56, .ireturn, 1), (57, .aload_n 0, 1), (58, .iload_n 1, 1), (59, .iconst 0, 1), (60, .invokevirtual 360, 3), (63, .goto (-54), 3), (66, .iconst 1, 1), (67, .ireturn, 1)]
theorem D_Model_sumOf (i : Nat) {pc len : Nat} {ins : Instr} (hi : tb_Model_sumOf[i]? = some (pc, ins, len)) : decode M_Model_sumOf.2.1 pc = .ok (ins, len) := dec_of (by decide +kernel) i hi
def f_Model_sumOf_L43 (rec : GS → Option (Int × GS)) (k9 : GS → Option (Int × GS)) (G : GS) (s0 : Int) : Option (Int × GS) :=
  (f_Model_next0 G).bind fun q1 =>
  (f_Model_product rec q1).bind fun q2 =>
  if q2.1 = 0 then
    some (0, q2.2)
  else
    (f_Model_lay q2.2 s0 0).bind fun q3 =>
    k9 q3
theorem s_Model_sumOf_L43 {X : XT} {rec : GS → Option (Int × GS)} {D : Nat} (hD : 40 ≤ D) (hrec : ∀ {G : GS} {r : Int × GS}, rec G = some r → Call X true D 0 0 M_Model_sumOf [rf X 81] NC G (Rz r.1 r.2)) {r : Int × GS} {k9 : GS → Option (Int × GS)} (hk9 : ∀ {G : GS} , k9 G = some r → J X true (D + 3) 0 0 M_Model_sumOf (Rz r.1 r.2) NC 0 0 9 [(0, rf X 81)] [] G) : ∀ {G : GS} {s0 : Int}, wr s0 = s0 → f_Model_sumOf_L43 rec k9 G s0 = some r → J X true (D + 3) 0 0 M_Model_sumOf (Rz r.1 r.2) NC 0 0 43 [(0, rf X 81)] [vi s0] G := by
  intro G s0 hs0 h
  unfold f_Model_sumOf_L43 at h
  refine j_istoren (L' := [(1, vi s0), (0, rf X 81)]) (D_Model_sumOf 20 rfl) rfl (hs0) (by decide) rfl ?_
  refine j_aloadn (k := 1) (D_Model_sumOf 21 rfl) rfl rfl ?_
  obtain ⟨q1, e1, h⟩ := Option.bind_eq_some_iff.mp h
  refine j_cVv (c_Model_next0 e1) rfl lk_Model_344 mok_Model_next0 kd_81 lc_81 rfl (by omega) rfl rfl (Nat.le_of_ble_eq_true rfl) (D_Model_sumOf 22 rfl) ?_
  refine j_aloadn (k := 1) (D_Model_sumOf 23 rfl) rfl rfl ?_
  obtain ⟨q2, e2, h⟩ := Option.bind_eq_some_iff.mp h
  refine j_cVz (c_Model_product hD hrec e2) rfl lk_Model_356 mok_Model_product kd_81 lc_81 rfl (by omega) rfl rfl (Nat.le_of_ble_eq_true rfl) (D_Model_sumOf 24 rfl) (fun w1 bw1 => ?_)
  refine j_if_ne (tgt := 57) (D_Model_sumOf 25 rfl) rfl (w1) (fun c1 => ?_) (fun c1 => ?_)
  · replace h := ite_f h c1
    refine j_aloadn (k := 1) (D_Model_sumOf 28 rfl) rfl rfl ?_
    refine j_iloadn (k := 0) (D_Model_sumOf 29 rfl) rfl rfl ?_
    refine j_iconst (v := 0) (D_Model_sumOf 30 rfl) rfl ?_
    obtain ⟨q3, e3, h⟩ := Option.bind_eq_some_iff.mp h
    refine j_cVv (c_Model_lay (hs0) (wr_lit rfl) e3) rfl lk_Model_360 mok_Model_lay kd_81 lc_81 rfl (by omega) rfl rfl (Nat.le_of_ble_eq_true rfl) (D_Model_sumOf 31 rfl) ?_
    refine j_goto (tgt := 9) (D_Model_sumOf 32 rfl) rfl ?_
    refine j_loc [1] rfl ?_
    exact hk9 h
  · replace h := ite_t h c1
    refine j_iconst (v := 0) (D_Model_sumOf 26 rfl) rfl ?_
    exact j_zret (D_Model_sumOf 27 rfl) rfl (wr_lit rfl) (nz_01 (by decide)) rfl rfl (leafZ h (wr_n (wr_lit rfl)) (by decide))
def f_Model_sumOf_L27 (rec : GS → Option (Int × GS)) (k9 : GS → Option (Int × GS)) (G : GS) : Option (Int × GS) :=
  if gi G 81 45 = 43 then
    f_Model_sumOf_L43 rec k9 G 8
  else
    f_Model_sumOf_L43 rec k9 G 9
theorem s_Model_sumOf_L27 {X : XT} {rec : GS → Option (Int × GS)} {D : Nat} (hD : 40 ≤ D) (hrec : ∀ {G : GS} {r : Int × GS}, rec G = some r → Call X true D 0 0 M_Model_sumOf [rf X 81] NC G (Rz r.1 r.2)) {r : Int × GS} {k9 : GS → Option (Int × GS)} (hk9 : ∀ {G : GS} , k9 G = some r → J X true (D + 3) 0 0 M_Model_sumOf (Rz r.1 r.2) NC 0 0 9 [(0, rf X 81)] [] G) : ∀ {G : GS}, f_Model_sumOf_L27 rec k9 G = some r → J X true (D + 3) 0 0 M_Model_sumOf (Rz r.1 r.2) NC 0 0 27 [(0, rf X 81)] [] G := by
  intro G h
  unfold f_Model_sumOf_L27 at h
  refine j_aloadn (k := 0) (D_Model_sumOf 13 rfl) rfl rfl ?_
  refine j_getI rfl fa_Model_314 kd_81 lc_81 (by decide) rfl (D_Model_sumOf 14 rfl) ?_
  refine j_bipush (v := 43) (D_Model_sumOf 15 rfl) rfl ?_
  refine j_ic_ne (tgt := 41) (D_Model_sumOf 16 rfl) rfl (wr_gi _ _ _) (wr_lit rfl) (fun c1 => ?_) (fun c1 => ?_)
  · replace h := ite_f h c1
    refine j_bipush (v := 9) (D_Model_sumOf 19 rfl) rfl ?_
    refine j_loc [0] rfl ?_
    exact s_Model_sumOf_L43 hD hrec hk9 (wr_lit rfl) h
  · replace h := ite_t h c1
    refine j_bipush (v := 8) (D_Model_sumOf 17 rfl) rfl ?_
    refine j_goto (tgt := 43) (D_Model_sumOf 18 rfl) rfl ?_
    refine j_loc [0] rfl ?_
    exact s_Model_sumOf_L43 hD hrec hk9 (wr_lit rfl) h
def f_Model_sumOf_L9 (rec : GS → Option (Int × GS)) : Nat → GS → Option (Int × GS)
  | 0, _ => none
  | n + 1, G =>
    if gi G 81 45 = 43 then
      f_Model_sumOf_L27 rec (f_Model_sumOf_L9 rec n) G
    else
      if gi G 81 45 = 45 then
        f_Model_sumOf_L27 rec (f_Model_sumOf_L9 rec n) G
      else
        some (1, G)
theorem s_Model_sumOf_L9 {X : XT} {rec : GS → Option (Int × GS)} {D : Nat} (hD : 40 ≤ D) (hrec : ∀ {G : GS} {r : Int × GS}, rec G = some r → Call X true D 0 0 M_Model_sumOf [rf X 81] NC G (Rz r.1 r.2)) {r : Int × GS} : ∀ (n : Nat) {G : GS}, f_Model_sumOf_L9 rec n G = some r → J X true (D + 3) 0 0 M_Model_sumOf (Rz r.1 r.2) NC 0 0 9 [(0, rf X 81)] [] G := by
  intro n
  induction n with
  | zero =>
    intro G h
    exact none_some h
  | succ n ih =>
    intro G h
    rw [f_Model_sumOf_L9] at h
    refine j_aloadn (k := 0) (D_Model_sumOf 5 rfl) rfl rfl ?_
    refine j_getI rfl fa_Model_314 kd_81 lc_81 (by decide) rfl (D_Model_sumOf 6 rfl) ?_
    refine j_bipush (v := 43) (D_Model_sumOf 7 rfl) rfl ?_
    refine j_ic_eq (tgt := 27) (D_Model_sumOf 8 rfl) rfl (wr_gi _ _ _) (wr_lit rfl) (fun c1 => ?_) (fun c1 => ?_)
    · replace h := ite_t h c1
      refine j_loc [0] rfl ?_
      exact s_Model_sumOf_L27 hD hrec ih h
    · replace h := ite_f h c1
      refine j_aloadn (k := 0) (D_Model_sumOf 9 rfl) rfl rfl ?_
      refine j_getI rfl fa_Model_314 kd_81 lc_81 (by decide) rfl (D_Model_sumOf 10 rfl) ?_
      refine j_bipush (v := 45) (D_Model_sumOf 11 rfl) rfl ?_
      refine j_ic_ne (tgt := 66) (D_Model_sumOf 12 rfl) rfl (wr_gi _ _ _) (wr_lit rfl) (fun c2 => ?_) (fun c2 => ?_)
      · replace h := ite_f h c2
        refine j_iconst (v := 1) (D_Model_sumOf 33 rfl) rfl ?_
        exact j_zret (D_Model_sumOf 34 rfl) rfl (wr_lit rfl) (nz_01 (by decide)) rfl rfl (leafZ h (wr_n (wr_lit rfl)) (by decide))
      · replace h := ite_t h c2
        refine j_loc [0] rfl ?_
        exact s_Model_sumOf_L27 hD hrec ih h
def f_Model_sumOf (rec : GS → Option (Int × GS)) (G : GS) : Option (Int × GS) :=
  (f_Model_product rec G).bind fun q1 =>
  if q1.1 = 0 then
    some (0, q1.2)
  else
    f_Model_sumOf_L9 rec FU q1.2
theorem c_Model_sumOf {X : XT} {rec : GS → Option (Int × GS)} {D : Nat} (hD : 40 ≤ D) (hrec : ∀ {G : GS} {r : Int × GS}, rec G = some r → Call X true D 0 0 M_Model_sumOf [rf X 81] NC G (Rz r.1 r.2)) {G : GS} {r : Int × GS} (h : f_Model_sumOf rec G = some r) : Call X true (D + 3) 0 0 M_Model_sumOf [rf X 81] NC G (Rz r.1 r.2) := by
  refine Call_of_J cw_Model_sumOf (by decide +kernel) (Nat.le_of_ble_eq_true rfl) ?_
  unfold f_Model_sumOf at h
  show J X true (D + 3) 0 0 M_Model_sumOf (Rz r.1 r.2) NC 0 0 0 [(0, rf X 81)] [] G
  refine j_aloadn (k := 0) (D_Model_sumOf 0 rfl) rfl rfl ?_
  obtain ⟨q1, e1, h⟩ := Option.bind_eq_some_iff.mp h
  refine j_cVz (c_Model_product hD hrec e1) rfl lk_Model_356 mok_Model_product kd_81 lc_81 rfl (by omega) rfl rfl (Nat.le_of_ble_eq_true rfl) (D_Model_sumOf 1 rfl) (fun w1 bw1 => ?_)
  refine j_if_ne (tgt := 9) (D_Model_sumOf 2 rfl) rfl (w1) (fun c1 => ?_) (fun c1 => ?_)
  · replace h := ite_f h c1
    refine j_loc [0] rfl ?_
    exact s_Model_sumOf_L9 hD hrec FU h
  · replace h := ite_t h c1
    refine j_iconst (v := 0) (D_Model_sumOf 3 rfl) rfl ?_
    exact j_zret (D_Model_sumOf 4 rfl) rfl (wr_lit rfl) (nz_01 (by decide)) rfl rfl (leafZ h (wr_n (wr_lit rfl)) (by decide))
def f_Model_sumOfN : Nat → GS → Option (Int × GS)
  | 0, _ => none
  | n + 1, G => f_Model_sumOf (f_Model_sumOfN n) G
theorem c_Model_sumOfN {X : XT} : ∀ (n : Nat) {G : GS} {r : Int × GS}, f_Model_sumOfN n G = some r → Call X true (40 + 3 * n) 0 0 M_Model_sumOf [rf X 81] NC G (Rz r.1 r.2) := by
  intro n
  induction n with
  | zero => intro G r h; exact none_some h
  | succ n ih => intro G r h; exact c_Model_sumOf (D := 40 + 3 * n) (by omega) ih h
def f_Model_sumOfC (G : GS) : Option (Int × GS) := f_Model_sumOfN 12 G
theorem c_Model_sumOfC {X : XT} {G : GS} {r : Int × GS} (h : f_Model_sumOfC G = some r) : Call X true 76 0 0 M_Model_sumOf [rf X 81] NC G (Rz r.1 r.2) := c_Model_sumOfN 12 h
abbrev M_Model_one : MI := (⟨"InquestHallModel", "one", "()Z"⟩, prog_14_method_43_code, 2, (some .boolean))
theorem cw_Model_one : Cond.code M_Model_one.1 M_Model_one.2.1 M_Model_one.2.2.1 M_Model_one.2.2.2 ∈ TS := mTS (List.mem_of_getElem? (i := 1770) (by decide +kernel)) (by decide +kernel)
theorem lk_Model_378 : Cond.methodLink "InquestHallModel" 378 M_Model_one.1 ∈ TS := mTS (List.mem_of_getElem? (i := 1767) (by decide +kernel)) (by decide +kernel)
theorem mok_Model_one : MOK M_Model_one 0 := ⟨mTS (List.mem_of_getElem? (i := 1769) (by decide +kernel)) (by decide +kernel), mTS (List.mem_of_getElem? (i := 85) (by decide +kernel)) (by decide +kernel), mTS (List.mem_of_getElem? (i := 139) (by decide +kernel)) (by decide +kernel), cw_Model_one, ⟨by decide, by decide, by decide +kernel⟩, by decide +kernel, by decide⟩
def tb_Model_one : List (Nat × Instr × Nat) := [(0, .aload_n 0, 1), (1, .getfield 314, 3), (4, .bipush 18, 2), (6, .if_icmp .ne 38, 3), (9, .aload_n 0, 1), (10, .invokevirtual 367, 3), (13, .ifCond .eq 10, 3), (16, .aload_n 0, 1), (17, .invokevirtual 378, 3), (20, .ifCond .ne 5, 3), (23, .iconst 0, 1), (24, .ireturn, 1), (25, .aload_n 0, 1), (26, .dup, 1), (27, .getfield 353, 3), (30, .iconst 1, 1), (31, .isub, 1), (32, .putfield 353, 3), (35, .aload_n 0, 1), (36, .bipush 15, 2), (38, .iconst 0, 1), (39, .invokevirtual 360, 3), (42, .iconst 1, 1), (43, .ireturn, 1), (44, .aload_n 0, 1), (45, .invokevirtual 370, 3), (48, .ifCond .ne 5, 3), (51, .iconst 0, 1), (52, .ireturn, 1), (53, .aload_n 0, 1), (54, .getfield 314, 3), (57, .bipush 60, 2), (59, .if_icmp .ne 8, 3), (62, .bipush 12, 2), (64, .goto 32, 3), (67, .aload_n 0, 1), (68, .getfield 314, 3), (71, .bipush 61, 2), (73, .if_icmp .ne 8, 3), (76, .bipush 13, 2), (78, .goto 18, 3), (81, .aload_n 0, 1), (82, .getfield 314, 3), (85, .bipush 62, 2), (87, .if_icmp .ne 8, 3), (90, .bipush 14, 2), (92, .goto 4, 3), (95, .iconst (-1), 1), (96, .istore_n 1, 1), (97, .iload_n 1, 1), (98, .iconst (-1), 1), (99, .if_icmp .ne 9, 3), (102, .aload_n 0, 1), (103, .iconst 1, 1), (104, .invokevirtual 341, 3), (107, .ireturn, 1), (108, .aload_n 0, 1), (109, .invokevirtual 344, 3), (112, .aload_n 0, 1), (113, .invokevirtual 370, 3), (116, .ifCond .ne 5, 3), (119, .iconst 0, 1), (120, .ireturn, 1), (121, .aload_n 0, 1), (122, .iload_n 1, 1), (123, .iconst 0, 1), (124, .invokevirtual 360, 3), (127, .iconst 1, 1), (128, .ireturn, 1)]
theorem D_Model_one (i : Nat) {pc len : Nat} {ins : Instr} (hi : tb_Model_one[i]? = some (pc, ins, len)) : decode M_Model_one.2.1 pc = .ok (ins, len) := dec_of (by decide +kernel) i hi
def f_Model_one_L96 (rec : GS → Option (Int × GS)) (G : GS) (s0 : Int) : Option (Int × GS) :=
  if s0 = (-1) then
    (f_Model_bad G 1).bind fun q4 =>
    some (q4.1, q4.2)
  else
    (f_Model_next0 G).bind fun q1 =>
    (f_Model_sumOfC q1).bind fun q2 =>
    if q2.1 = 0 then
      some (0, q2.2)
    else
      (f_Model_lay q2.2 s0 0).bind fun q3 =>
      some (1, q3)
theorem s_Model_one_L96 {X : XT} {rec : GS → Option (Int × GS)} {D : Nat} (hD : 81 ≤ D) (hrec : ∀ {G : GS} {r : Int × GS}, rec G = some r → Call X true D 0 0 M_Model_one [rf X 81] NC G (Rz r.1 r.2)) {r : Int × GS} : ∀ {G : GS} {s0 : Int}, wr s0 = s0 → f_Model_one_L96 rec G s0 = some r → J X true (D + 1) 0 0 M_Model_one (Rz r.1 r.2) NC 0 0 96 [(0, rf X 81)] [vi s0] G := by
  intro G s0 hs0 h
  unfold f_Model_one_L96 at h
  refine j_istoren (L' := [(1, vi s0), (0, rf X 81)]) (D_Model_one 48 rfl) rfl (hs0) (by decide) rfl ?_
  refine j_iloadn (k := 0) (D_Model_one 49 rfl) rfl rfl ?_
  refine j_iconst (v := (-1)) (D_Model_one 50 rfl) rfl ?_
  refine j_ic_ne (tgt := 108) (D_Model_one 51 rfl) rfl (hs0) (wr_lit rfl) (fun c1 => ?_) (fun c1 => ?_)
  · replace h := ite_f h c1
    refine j_aloadn (k := 1) (D_Model_one 56 rfl) rfl rfl ?_
    obtain ⟨q1, e1, h⟩ := Option.bind_eq_some_iff.mp h
    refine j_cVv (c_Model_next0 e1) rfl lk_Model_344 mok_Model_next0 kd_81 lc_81 rfl (by omega) rfl rfl (Nat.le_of_ble_eq_true rfl) (D_Model_one 57 rfl) ?_
    refine j_aloadn (k := 1) (D_Model_one 58 rfl) rfl rfl ?_
    obtain ⟨q2, e2, h⟩ := Option.bind_eq_some_iff.mp h
    refine j_cVz (c_Model_sumOfC e2) rfl lk_Model_370 mok_Model_sumOf kd_81 lc_81 rfl (by omega) rfl rfl (Nat.le_of_ble_eq_true rfl) (D_Model_one 59 rfl) (fun w1 bw1 => ?_)
    refine j_if_ne (tgt := 121) (D_Model_one 60 rfl) rfl (w1) (fun c2 => ?_) (fun c2 => ?_)
    · replace h := ite_f h c2
      refine j_aloadn (k := 1) (D_Model_one 63 rfl) rfl rfl ?_
      refine j_iloadn (k := 0) (D_Model_one 64 rfl) rfl rfl ?_
      refine j_iconst (v := 0) (D_Model_one 65 rfl) rfl ?_
      obtain ⟨q3, e3, h⟩ := Option.bind_eq_some_iff.mp h
      refine j_cVv (c_Model_lay (hs0) (wr_lit rfl) e3) rfl lk_Model_360 mok_Model_lay kd_81 lc_81 rfl (by omega) rfl rfl (Nat.le_of_ble_eq_true rfl) (D_Model_one 66 rfl) ?_
      refine j_iconst (v := 1) (D_Model_one 67 rfl) rfl ?_
      exact j_zret (D_Model_one 68 rfl) rfl (wr_lit rfl) (nz_01 (by decide)) rfl rfl (leafZ h (wr_n (wr_lit rfl)) (by decide))
    · replace h := ite_t h c2
      refine j_iconst (v := 0) (D_Model_one 61 rfl) rfl ?_
      exact j_zret (D_Model_one 62 rfl) rfl (wr_lit rfl) (nz_01 (by decide)) rfl rfl (leafZ h (wr_n (wr_lit rfl)) (by decide))
  · replace h := ite_t h c1
    refine j_aloadn (k := 1) (D_Model_one 52 rfl) rfl rfl ?_
    refine j_iconst (v := 1) (D_Model_one 53 rfl) rfl ?_
    obtain ⟨q4, e4, h⟩ := Option.bind_eq_some_iff.mp h
    refine j_cVz (c_Model_bad (wr_lit rfl) e4) rfl lk_Model_341 mok_Model_bad kd_81 lc_81 rfl (by omega) rfl rfl (Nat.le_of_ble_eq_true rfl) (D_Model_one 54 rfl) (fun w2 bw2 => ?_)
    exact j_zret (D_Model_one 55 rfl) rfl (w2) (nz_01 bw2) rfl rfl (leafZ h (wr_n (w2)) bw2)
def f_Model_one (rec : GS → Option (Int × GS)) (G : GS) : Option (Int × GS) :=
  if gi G 81 45 = 18 then
    (f_Model_opens G).bind fun q2 =>
    if q2.1 = 0 then
      some (0, q2.2)
    else
      (rec q2.2).bind fun q3 =>
      if q3.1 = 0 then
        some (0, q3.2)
      else
        wG (si q3.2 81 51 ((gi q3.2 81 51) - 1)) fun G1 =>
        (f_Model_lay G1 15 0).bind fun q4 =>
        some (1, q4)
  else
    (f_Model_sumOfC G).bind fun q1 =>
    if q1.1 = 0 then
      some (0, q1.2)
    else
      if gi q1.2 81 45 = 60 then
        f_Model_one_L96 rec q1.2 12
      else
        if gi q1.2 81 45 = 61 then
          f_Model_one_L96 rec q1.2 13
        else
          if gi q1.2 81 45 = 62 then
            f_Model_one_L96 rec q1.2 14
          else
            f_Model_one_L96 rec q1.2 (-1)
theorem c_Model_one {X : XT} {rec : GS → Option (Int × GS)} {D : Nat} (hD : 81 ≤ D) (hrec : ∀ {G : GS} {r : Int × GS}, rec G = some r → Call X true D 0 0 M_Model_one [rf X 81] NC G (Rz r.1 r.2)) {G : GS} {r : Int × GS} (h : f_Model_one rec G = some r) : Call X true (D + 1) 0 0 M_Model_one [rf X 81] NC G (Rz r.1 r.2) := by
  refine Call_of_J cw_Model_one (by decide +kernel) (Nat.le_of_ble_eq_true rfl) ?_
  unfold f_Model_one at h
  show J X true (D + 1) 0 0 M_Model_one (Rz r.1 r.2) NC 0 0 0 [(0, rf X 81)] [] G
  refine j_aloadn (k := 0) (D_Model_one 0 rfl) rfl rfl ?_
  refine j_getI rfl fa_Model_314 kd_81 lc_81 (by decide) rfl (D_Model_one 1 rfl) ?_
  refine j_bipush (v := 18) (D_Model_one 2 rfl) rfl ?_
  refine j_ic_ne (tgt := 44) (D_Model_one 3 rfl) rfl (wr_gi _ _ _) (wr_lit rfl) (fun c1 => ?_) (fun c1 => ?_)
  · replace h := ite_f h c1
    refine j_aloadn (k := 0) (D_Model_one 24 rfl) rfl rfl ?_
    obtain ⟨q1, e1, h⟩ := Option.bind_eq_some_iff.mp h
    refine j_cVz (c_Model_sumOfC e1) rfl lk_Model_370 mok_Model_sumOf kd_81 lc_81 rfl (by omega) rfl rfl (Nat.le_of_ble_eq_true rfl) (D_Model_one 25 rfl) (fun w1 bw1 => ?_)
    refine j_if_ne (tgt := 53) (D_Model_one 26 rfl) rfl (w1) (fun c2 => ?_) (fun c2 => ?_)
    · replace h := ite_f h c2
      refine j_aloadn (k := 0) (D_Model_one 29 rfl) rfl rfl ?_
      refine j_getI rfl fa_Model_314 kd_81 lc_81 (by decide) rfl (D_Model_one 30 rfl) ?_
      refine j_bipush (v := 60) (D_Model_one 31 rfl) rfl ?_
      refine j_ic_ne (tgt := 67) (D_Model_one 32 rfl) rfl (wr_gi _ _ _) (wr_lit rfl) (fun c3 => ?_) (fun c3 => ?_)
      · replace h := ite_f h c3
        refine j_aloadn (k := 0) (D_Model_one 35 rfl) rfl rfl ?_
        refine j_getI rfl fa_Model_314 kd_81 lc_81 (by decide) rfl (D_Model_one 36 rfl) ?_
        refine j_bipush (v := 61) (D_Model_one 37 rfl) rfl ?_
        refine j_ic_ne (tgt := 81) (D_Model_one 38 rfl) rfl (wr_gi _ _ _) (wr_lit rfl) (fun c4 => ?_) (fun c4 => ?_)
        · replace h := ite_f h c4
          refine j_aloadn (k := 0) (D_Model_one 41 rfl) rfl rfl ?_
          refine j_getI rfl fa_Model_314 kd_81 lc_81 (by decide) rfl (D_Model_one 42 rfl) ?_
          refine j_bipush (v := 62) (D_Model_one 43 rfl) rfl ?_
          refine j_ic_ne (tgt := 95) (D_Model_one 44 rfl) rfl (wr_gi _ _ _) (wr_lit rfl) (fun c5 => ?_) (fun c5 => ?_)
          · replace h := ite_f h c5
            refine j_iconst (v := (-1)) (D_Model_one 47 rfl) rfl ?_
            refine j_loc [0] rfl ?_
            exact s_Model_one_L96 hD hrec (wr_lit rfl) h
          · replace h := ite_t h c5
            refine j_bipush (v := 14) (D_Model_one 45 rfl) rfl ?_
            refine j_goto (tgt := 96) (D_Model_one 46 rfl) rfl ?_
            refine j_loc [0] rfl ?_
            exact s_Model_one_L96 hD hrec (wr_lit rfl) h
        · replace h := ite_t h c4
          refine j_bipush (v := 13) (D_Model_one 39 rfl) rfl ?_
          refine j_goto (tgt := 96) (D_Model_one 40 rfl) rfl ?_
          refine j_loc [0] rfl ?_
          exact s_Model_one_L96 hD hrec (wr_lit rfl) h
      · replace h := ite_t h c3
        refine j_bipush (v := 12) (D_Model_one 33 rfl) rfl ?_
        refine j_goto (tgt := 96) (D_Model_one 34 rfl) rfl ?_
        refine j_loc [0] rfl ?_
        exact s_Model_one_L96 hD hrec (wr_lit rfl) h
    · replace h := ite_t h c2
      refine j_iconst (v := 0) (D_Model_one 27 rfl) rfl ?_
      exact j_zret (D_Model_one 28 rfl) rfl (wr_lit rfl) (nz_01 (by decide)) rfl rfl (leafZ h (wr_n (wr_lit rfl)) (by decide))
  · replace h := ite_t h c1
    refine j_aloadn (k := 0) (D_Model_one 4 rfl) rfl rfl ?_
    obtain ⟨q2, e2, h⟩ := Option.bind_eq_some_iff.mp h
    refine j_cVz (c_Model_opens e2) rfl lk_Model_367 mok_Model_opens kd_81 lc_81 rfl (by omega) rfl rfl (Nat.le_of_ble_eq_true rfl) (D_Model_one 5 rfl) (fun w2 bw2 => ?_)
    refine j_if_eq (tgt := 23) (D_Model_one 6 rfl) rfl (w2) (fun c6 => ?_) (fun c6 => ?_)
    · replace h := ite_t h c6
      refine j_iconst (v := 0) (D_Model_one 10 rfl) rfl ?_
      exact j_zret (D_Model_one 11 rfl) rfl (wr_lit rfl) (nz_01 (by decide)) rfl rfl (leafZ h (wr_n (wr_lit rfl)) (by decide))
    · replace h := ite_f h c6
      refine j_aloadn (k := 0) (D_Model_one 7 rfl) rfl rfl ?_
      obtain ⟨q3, e3, h⟩ := Option.bind_eq_some_iff.mp h
      refine j_cVz (hrec e3) rfl lk_Model_378 mok_Model_one kd_81 lc_81 rfl (by omega) rfl rfl (Nat.le_of_ble_eq_true rfl) (D_Model_one 8 rfl) (fun w3 bw3 => ?_)
      refine j_if_ne (tgt := 25) (D_Model_one 9 rfl) rfl (w3) (fun c7 => ?_) (fun c7 => ?_)
      · replace h := ite_f h c7
        refine j_aloadn (k := 0) (D_Model_one 12 rfl) rfl rfl ?_
        refine j_dup (D_Model_one 13 rfl) rfl ?_
        refine j_getI rfl fa_Model_353 kd_81 lc_81 (by decide) rfl (D_Model_one 14 rfl) ?_
        refine j_iconst (v := 1) (D_Model_one 15 rfl) rfl ?_
        refine j_isub (D_Model_one 16 rfl) ?_
        refine j_putI rfl fa_Model_353 kd_81 lc_81 (by decide) rfl (D_Model_one 17 rfl) ?_
        refine j_gen (fun G1 e4 => ?_)
        replace h := wG_at h e4
        refine j_aloadn (k := 0) (D_Model_one 18 rfl) rfl rfl ?_
        refine j_bipush (v := 15) (D_Model_one 19 rfl) rfl ?_
        refine j_iconst (v := 0) (D_Model_one 20 rfl) rfl ?_
        obtain ⟨q4, e5, h⟩ := Option.bind_eq_some_iff.mp h
        refine j_cVv (c_Model_lay (wr_lit rfl) (wr_lit rfl) e5) rfl lk_Model_360 mok_Model_lay kd_81 lc_81 rfl (by omega) rfl rfl (Nat.le_of_ble_eq_true rfl) (D_Model_one 21 rfl) ?_
        refine j_iconst (v := 1) (D_Model_one 22 rfl) rfl ?_
        exact j_zret (D_Model_one 23 rfl) rfl (wr_lit rfl) (nz_01 (by decide)) rfl rfl (leafZ h (wr_n (wr_lit rfl)) (by decide))
      · replace h := ite_t h c7
        refine j_iconst (v := 0) (D_Model_one 10 rfl) rfl ?_
        exact j_zret (D_Model_one 11 rfl) rfl (wr_lit rfl) (nz_01 (by decide)) rfl rfl (leafZ h (wr_n (wr_lit rfl)) (by decide))
def f_Model_oneN : Nat → GS → Option (Int × GS)
  | 0, _ => none
  | n + 1, G => f_Model_one (f_Model_oneN n) G
theorem c_Model_oneN {X : XT} : ∀ (n : Nat) {G : GS} {r : Int × GS}, f_Model_oneN n G = some r → Call X true (81 + n) 0 0 M_Model_one [rf X 81] NC G (Rz r.1 r.2) := by
  intro n
  induction n with
  | zero => intro G r h; exact none_some h
  | succ n ih => intro G r h; exact c_Model_one (D := 81 + n) (by omega) ih h
def f_Model_oneC (G : GS) : Option (Int × GS) := f_Model_oneN 10 G
theorem c_Model_oneC {X : XT} {G : GS} {r : Int × GS} (h : f_Model_oneC G = some r) : Call X true 91 0 0 M_Model_one [rf X 81] NC G (Rz r.1 r.2) := c_Model_oneN 10 h
abbrev M_Model_all : MI := (⟨"InquestHallModel", "all", "()Z"⟩, prog_14_method_42_code, 1, (some .boolean))
theorem cw_Model_all : Cond.code M_Model_all.1 M_Model_all.2.1 M_Model_all.2.2.1 M_Model_all.2.2.2 ∈ TS := mTS (List.mem_of_getElem? (i := 1766) (by decide +kernel)) (by decide +kernel)
def tb_Model_all : List (Nat × Instr × Nat) := [(0, .aload_n 0, 1), (1, .invokevirtual 378, 3), (4, .ifCond .ne 5, 3), (7, .iconst 0, 1), (8, .ireturn, 1), (9, .aload_n 0, 1), (10, .getfield 314, 3), (13, .bipush 17, 2), (15, .if_icmp .ne 26, 3), (18, .aload_n 0, 1), (19, .invokevirtual 344, 3), (22, .aload_n 0, 1), (23, .invokevirtual 378, 3), (26, .ifCond .ne 5, 3), (29, .iconst 0, 1), (30, .ireturn, 1), (31, .aload_n 0, 1), (32, .bipush 16, 2), (34, .iconst 0, 1), (35, .invokevirtual 360, 3), (38, .goto (-29), 3), (41, .iconst 1, 1), (42, .ireturn, 1)]
theorem D_Model_all (i : Nat) {pc len : Nat} {ins : Instr} (hi : tb_Model_all[i]? = some (pc, ins, len)) : decode M_Model_all.2.1 pc = .ok (ins, len) := dec_of (by decide +kernel) i hi
def f_Model_all_L9 : Nat → GS → Option (Int × GS)
  | 0, _ => none
  | n + 1, G =>
    if gi G 81 45 = 17 then
      (f_Model_next0 G).bind fun q1 =>
      (f_Model_oneC q1).bind fun q2 =>
      if q2.1 = 0 then
        some (0, q2.2)
      else
        (f_Model_lay q2.2 16 0).bind fun q3 =>
        f_Model_all_L9 n q3
    else
      some (1, G)
theorem s_Model_all_L9 {X : XT} {r : Int × GS} : ∀ (n : Nat) {G : GS}, f_Model_all_L9 n G = some r → J X true 92 0 0 M_Model_all (Rz r.1 r.2) NC 0 0 9 [(0, rf X 81)] [] G := by
  intro n
  induction n with
  | zero =>
    intro G h
    exact none_some h
  | succ n ih =>
    intro G h
    rw [f_Model_all_L9] at h
    refine j_aloadn (k := 0) (D_Model_all 5 rfl) rfl rfl ?_
    refine j_getI rfl fa_Model_314 kd_81 lc_81 (by decide) rfl (D_Model_all 6 rfl) ?_
    refine j_bipush (v := 17) (D_Model_all 7 rfl) rfl ?_
    refine j_ic_ne (tgt := 41) (D_Model_all 8 rfl) rfl (wr_gi _ _ _) (wr_lit rfl) (fun c1 => ?_) (fun c1 => ?_)
    · replace h := ite_f h c1
      refine j_iconst (v := 1) (D_Model_all 21 rfl) rfl ?_
      exact j_zret (D_Model_all 22 rfl) rfl (wr_lit rfl) (nz_01 (by decide)) rfl rfl (leafZ h (wr_n (wr_lit rfl)) (by decide))
    · replace h := ite_t h c1
      refine j_aloadn (k := 0) (D_Model_all 9 rfl) rfl rfl ?_
      obtain ⟨q1, e1, h⟩ := Option.bind_eq_some_iff.mp h
      refine j_cVv (c_Model_next0 e1) rfl lk_Model_344 mok_Model_next0 kd_81 lc_81 rfl (by decide) rfl rfl (Nat.le_of_ble_eq_true rfl) (D_Model_all 10 rfl) ?_
      refine j_aloadn (k := 0) (D_Model_all 11 rfl) rfl rfl ?_
      obtain ⟨q2, e2, h⟩ := Option.bind_eq_some_iff.mp h
      refine j_cVz (c_Model_oneC e2) rfl lk_Model_378 mok_Model_one kd_81 lc_81 rfl (by decide) rfl rfl (Nat.le_of_ble_eq_true rfl) (D_Model_all 12 rfl) (fun w1 bw1 => ?_)
      refine j_if_ne (tgt := 31) (D_Model_all 13 rfl) rfl (w1) (fun c2 => ?_) (fun c2 => ?_)
      · replace h := ite_f h c2
        refine j_aloadn (k := 0) (D_Model_all 16 rfl) rfl rfl ?_
        refine j_bipush (v := 16) (D_Model_all 17 rfl) rfl ?_
        refine j_iconst (v := 0) (D_Model_all 18 rfl) rfl ?_
        obtain ⟨q3, e3, h⟩ := Option.bind_eq_some_iff.mp h
        refine j_cVv (c_Model_lay (wr_lit rfl) (wr_lit rfl) e3) rfl lk_Model_360 mok_Model_lay kd_81 lc_81 rfl (by decide) rfl rfl (Nat.le_of_ble_eq_true rfl) (D_Model_all 19 rfl) ?_
        refine j_goto (tgt := 9) (D_Model_all 20 rfl) rfl ?_
        refine j_loc [0] rfl ?_
        exact ih h
      · replace h := ite_t h c2
        refine j_iconst (v := 0) (D_Model_all 14 rfl) rfl ?_
        exact j_zret (D_Model_all 15 rfl) rfl (wr_lit rfl) (nz_01 (by decide)) rfl rfl (leafZ h (wr_n (wr_lit rfl)) (by decide))
def f_Model_all (G : GS) : Option (Int × GS) :=
  (f_Model_oneC G).bind fun q1 =>
  if q1.1 = 0 then
    some (0, q1.2)
  else
    f_Model_all_L9 FU q1.2
theorem c_Model_all {X : XT} {G : GS} {r : Int × GS} (h : f_Model_all G = some r) : Call X true 92 0 0 M_Model_all [rf X 81] NC G (Rz r.1 r.2) := by
  refine Call_of_J cw_Model_all (by decide +kernel) (Nat.le_of_ble_eq_true rfl) ?_
  unfold f_Model_all at h
  show J X true 92 0 0 M_Model_all (Rz r.1 r.2) NC 0 0 0 [(0, rf X 81)] [] G
  refine j_aloadn (k := 0) (D_Model_all 0 rfl) rfl rfl ?_
  obtain ⟨q1, e1, h⟩ := Option.bind_eq_some_iff.mp h
  refine j_cVz (c_Model_oneC e1) rfl lk_Model_378 mok_Model_one kd_81 lc_81 rfl (by decide) rfl rfl (Nat.le_of_ble_eq_true rfl) (D_Model_all 1 rfl) (fun w1 bw1 => ?_)
  refine j_if_ne (tgt := 9) (D_Model_all 2 rfl) rfl (w1) (fun c1 => ?_) (fun c1 => ?_)
  · replace h := ite_f h c1
    refine j_loc [0] rfl ?_
    exact s_Model_all_L9 FU h
  · replace h := ite_t h c1
    refine j_iconst (v := 0) (D_Model_all 3 rfl) rfl ?_
    exact j_zret (D_Model_all 4 rfl) rfl (wr_lit rfl) (nz_01 (by decide)) rfl rfl (leafZ h (wr_n (wr_lit rfl)) (by decide))
abbrev M_Model_any : MI := (⟨"InquestHallModel", "any", "()Z"⟩, prog_14_method_41_code, 1, (some .boolean))
theorem cw_Model_any : Cond.code M_Model_any.1 M_Model_any.2.1 M_Model_any.2.2.1 M_Model_any.2.2.2 ∈ TS := mTS (List.mem_of_getElem? (i := 1762) (by decide +kernel)) (by decide +kernel)
theorem lk_Model_376 : Cond.methodLink "InquestHallModel" 376 M_Model_all.1 ∈ TS := mTS (List.mem_of_getElem? (i := 1763) (by decide +kernel)) (by decide +kernel)
theorem mok_Model_all : MOK M_Model_all 0 := ⟨mTS (List.mem_of_getElem? (i := 1765) (by decide +kernel)) (by decide +kernel), mTS (List.mem_of_getElem? (i := 84) (by decide +kernel)) (by decide +kernel), mTS (List.mem_of_getElem? (i := 139) (by decide +kernel)) (by decide +kernel), cw_Model_all, ⟨by decide, by decide, by decide +kernel⟩, by decide +kernel, by decide⟩
def tb_Model_any : List (Nat × Instr × Nat) := [(0, .aload_n 0, 1), (1, .invokevirtual 376, 3), (4, .ifCond .ne 5, 3), (7, .iconst 0, 1), (8, .ireturn, 1), (9, .aload_n 0, 1), (10, .getfield 314, 3), (13, .bipush 16, 2), (15, .if_icmp .ne 26, 3), (18, .aload_n 0, 1), (19, .invokevirtual 344, 3), (22, .aload_n 0, 1), (23, .invokevirtual 376, 3), (26, .ifCond .ne 5, 3), (29, .iconst 0, 1), (30, .ireturn, 1), (31, .aload_n 0, 1), (32, .bipush 17, 2), (34, .iconst 0, 1), (35, .invokevirtual 360, 3), (38, .goto (-29), 3), (41, .iconst 1, 1), (42, .ireturn, 1)]
theorem D_Model_any (i : Nat) {pc len : Nat} {ins : Instr} (hi : tb_Model_any[i]? = some (pc, ins, len)) : decode M_Model_any.2.1 pc = .ok (ins, len) := dec_of (by decide +kernel) i hi
def f_Model_any_L9 : Nat → GS → Option (Int × GS)
  | 0, _ => none
  | n + 1, G =>
    if gi G 81 45 = 16 then
      (f_Model_next0 G).bind fun q1 =>
      (f_Model_all q1).bind fun q2 =>
      if q2.1 = 0 then
        some (0, q2.2)
      else
        (f_Model_lay q2.2 17 0).bind fun q3 =>
        f_Model_any_L9 n q3
    else
      some (1, G)
theorem s_Model_any_L9 {X : XT} {r : Int × GS} : ∀ (n : Nat) {G : GS}, f_Model_any_L9 n G = some r → J X true 93 0 0 M_Model_any (Rz r.1 r.2) NC 0 0 9 [(0, rf X 81)] [] G := by
  intro n
  induction n with
  | zero =>
    intro G h
    exact none_some h
  | succ n ih =>
    intro G h
    rw [f_Model_any_L9] at h
    refine j_aloadn (k := 0) (D_Model_any 5 rfl) rfl rfl ?_
    refine j_getI rfl fa_Model_314 kd_81 lc_81 (by decide) rfl (D_Model_any 6 rfl) ?_
    refine j_bipush (v := 16) (D_Model_any 7 rfl) rfl ?_
    refine j_ic_ne (tgt := 41) (D_Model_any 8 rfl) rfl (wr_gi _ _ _) (wr_lit rfl) (fun c1 => ?_) (fun c1 => ?_)
    · replace h := ite_f h c1
      refine j_iconst (v := 1) (D_Model_any 21 rfl) rfl ?_
      exact j_zret (D_Model_any 22 rfl) rfl (wr_lit rfl) (nz_01 (by decide)) rfl rfl (leafZ h (wr_n (wr_lit rfl)) (by decide))
    · replace h := ite_t h c1
      refine j_aloadn (k := 0) (D_Model_any 9 rfl) rfl rfl ?_
      obtain ⟨q1, e1, h⟩ := Option.bind_eq_some_iff.mp h
      refine j_cVv (c_Model_next0 e1) rfl lk_Model_344 mok_Model_next0 kd_81 lc_81 rfl (by decide) rfl rfl (Nat.le_of_ble_eq_true rfl) (D_Model_any 10 rfl) ?_
      refine j_aloadn (k := 0) (D_Model_any 11 rfl) rfl rfl ?_
      obtain ⟨q2, e2, h⟩ := Option.bind_eq_some_iff.mp h
      refine j_cVz (c_Model_all e2) rfl lk_Model_376 mok_Model_all kd_81 lc_81 rfl (by decide) rfl rfl (Nat.le_of_ble_eq_true rfl) (D_Model_any 12 rfl) (fun w1 bw1 => ?_)
      refine j_if_ne (tgt := 31) (D_Model_any 13 rfl) rfl (w1) (fun c2 => ?_) (fun c2 => ?_)
      · replace h := ite_f h c2
        refine j_aloadn (k := 0) (D_Model_any 16 rfl) rfl rfl ?_
        refine j_bipush (v := 17) (D_Model_any 17 rfl) rfl ?_
        refine j_iconst (v := 0) (D_Model_any 18 rfl) rfl ?_
        obtain ⟨q3, e3, h⟩ := Option.bind_eq_some_iff.mp h
        refine j_cVv (c_Model_lay (wr_lit rfl) (wr_lit rfl) e3) rfl lk_Model_360 mok_Model_lay kd_81 lc_81 rfl (by decide) rfl rfl (Nat.le_of_ble_eq_true rfl) (D_Model_any 19 rfl) ?_
        refine j_goto (tgt := 9) (D_Model_any 20 rfl) rfl ?_
        refine j_loc [0] rfl ?_
        exact ih h
      · replace h := ite_t h c2
        refine j_iconst (v := 0) (D_Model_any 14 rfl) rfl ?_
        exact j_zret (D_Model_any 15 rfl) rfl (wr_lit rfl) (nz_01 (by decide)) rfl rfl (leafZ h (wr_n (wr_lit rfl)) (by decide))
def f_Model_any (G : GS) : Option (Int × GS) :=
  (f_Model_all G).bind fun q1 =>
  if q1.1 = 0 then
    some (0, q1.2)
  else
    f_Model_any_L9 FU q1.2
theorem c_Model_any {X : XT} {G : GS} {r : Int × GS} (h : f_Model_any G = some r) : Call X true 93 0 0 M_Model_any [rf X 81] NC G (Rz r.1 r.2) := by
  refine Call_of_J cw_Model_any (by decide +kernel) (Nat.le_of_ble_eq_true rfl) ?_
  unfold f_Model_any at h
  show J X true 93 0 0 M_Model_any (Rz r.1 r.2) NC 0 0 0 [(0, rf X 81)] [] G
  refine j_aloadn (k := 0) (D_Model_any 0 rfl) rfl rfl ?_
  obtain ⟨q1, e1, h⟩ := Option.bind_eq_some_iff.mp h
  refine j_cVz (c_Model_all e1) rfl lk_Model_376 mok_Model_all kd_81 lc_81 rfl (by decide) rfl rfl (Nat.le_of_ble_eq_true rfl) (D_Model_any 1 rfl) (fun w1 bw1 => ?_)
  refine j_if_ne (tgt := 9) (D_Model_any 2 rfl) rfl (w1) (fun c1 => ?_) (fun c1 => ?_)
  · replace h := ite_f h c1
    refine j_loc [0] rfl ?_
    exact s_Model_any_L9 FU h
  · replace h := ite_t h c1
    refine j_iconst (v := 0) (D_Model_any 3 rfl) rfl ?_
    exact j_zret (D_Model_any 4 rfl) rfl (wr_lit rfl) (nz_01 (by decide)) rfl rfl (leafZ h (wr_n (wr_lit rfl)) (by decide))
abbrev M_Model_inner : MI := (⟨"InquestHallModel", "inner", "(I)Z"⟩, prog_14_method_45_code, 3, (some .boolean))
theorem cw_Model_inner : Cond.code M_Model_inner.1 M_Model_inner.2.1 M_Model_inner.2.2.1 M_Model_inner.2.2.2 ∈ TS := mTS (List.mem_of_getElem? (i := 1721) (by decide +kernel)) (by decide +kernel)
theorem lk_Model_390 : Cond.methodLink "InquestHallModel" 390 M_Model_aWard.1 ∈ TS := mTS (List.mem_of_getElem? (i := 1730) (by decide +kernel)) (by decide +kernel)
theorem mok_Model_aWard : MOK M_Model_aWard 0 := ⟨mTS (List.mem_of_getElem? (i := 1732) (by decide +kernel)) (by decide +kernel), mTS (List.mem_of_getElem? (i := 76) (by decide +kernel)) (by decide +kernel), mTS (List.mem_of_getElem? (i := 139) (by decide +kernel)) (by decide +kernel), cw_Model_aWard, ⟨by decide, by decide, by decide +kernel⟩, by decide +kernel, by decide⟩
theorem ct_Model_393 : Cond.constant "InquestHallModel" 393 (99999 : Int32) ∈ TS := mTS (List.mem_of_getElem? (i := 1738) (by decide +kernel)) (by decide +kernel)
theorem fa_Model_109 : FA "InquestHallModel" 109 12 37 true (.array .int) := ⟨_, _, _, _, ok_Model, by decide, mTS (List.mem_of_getElem? (i := 1338) (by decide +kernel)) (by decide +kernel), rfl, rfl⟩
theorem fx_81_37 {G : GS} (w : WF true NC G) : G.2.2 81 37 = 115 := w.2 rfl (81, 37, 115) (by decide)
theorem kd_115 : kd 115 = (0, 30) := rfl
theorem lc_115 : 115 < NC := by decide
theorem lk_Model_394 : Cond.methodLink "InquestHallModel" 394 M_Model_any.1 ∈ TS := mTS (List.mem_of_getElem? (i := 1759) (by decide +kernel)) (by decide +kernel)
theorem mok_Model_any : MOK M_Model_any 0 := ⟨mTS (List.mem_of_getElem? (i := 1761) (by decide +kernel)) (by decide +kernel), mTS (List.mem_of_getElem? (i := 83) (by decide +kernel)) (by decide +kernel), mTS (List.mem_of_getElem? (i := 139) (by decide +kernel)) (by decide +kernel), cw_Model_any, ⟨by decide, by decide, by decide +kernel⟩, by decide +kernel, by decide⟩
def tb_Model_inner : List (Nat × Instr × Nat) := [(0, .aload_n 0, 1), (1, .getfield 381, 3), (4, .istore_n 2, 1), (5, .iload_n 1, 1), (6, .tableswitch 251 3 8 #[38, 106, 111, 187, 187, 212], 38), (44, .aload_n 0, 1), (45, .sipush 150, 3), (48, .iconst 3, 1), (49, .invokevirtual 384, 3), (52, .ifCond .ne 5, 3), (55, .iconst 0, 1), (56, .ireturn, 1), (57, .aload_n 0, 1), (58, .getfield 91, 3), (61, .iload_n 2, 1), (62, .aload_n 0, 1), (63, .getfield 347, 3), (66, .iastore, 1), (67, .aload_n 0, 1), (68, .getfield 94, 3), (71, .iload_n 2, 1), (72, .iconst (-1), 1), (73, .iastore, 1), (74, .aload_n 0, 1), (75, .getfield 314, 3), (78, .bipush 10, 2), (80, .if_icmp .eq 5, 3), (83, .iconst 1, 1), (84, .ireturn, 1), (85, .aload_n 0, 1), (86, .invokevirtual 344, 3), (89, .aload_n 0, 1), (90, .iconst 0, 1), (91, .iconst 3, 1), (92, .invokevirtual 387, 3), (95, .ifCond .ne 5, 3), (98, .iconst 0, 1), (99, .ireturn, 1), (100, .aload_n 0, 1), (101, .getfield 94, 3), (104, .iload_n 2, 1), (105, .aload_n 0, 1), (106, .getfield 347, 3), (109, .iastore, 1), (110, .iconst 1, 1), (111, .ireturn, 1), (112, .aload_n 0, 1), (113, .invokevirtual 390, 3), (116, .ireturn, 1), (117, .aload_n 0, 1), (118, .iconst 0, 1), (119, .ldc_w 393, 3), (122, .invokevirtual 387, 3), (125, .ifCond .ne 5, 3), (128, .iconst 0, 1), (129, .ireturn, 1), (130, .aload_n 0, 1), (131, .getfield 91, 3), (134, .iload_n 2, 1), (135, .aload_n 0, 1), (136, .getfield 347, 3), (139, .iastore, 1), (140, .aload_n 0, 1), (141, .bipush 14, 2), (143, .invokevirtual 373, 3), (146, .ifCond .eq 33, 3), (149, .aload_n 0, 1), (150, .aload_n 0, 1), (151, .getfield 91, 3), (154, .iload_n 2, 1), (155, .iaload, 1), (156, .iconst 1, 1), (157, .if_icmp .le 12, 3), (160, .aload_n 0, 1), (161, .getfield 91, 3), (164, .iload_n 2, 1), (165, .iaload, 1), (166, .goto 4, 3), (169, .iconst 1, 1), (170, .ldc_w 393, 3), (173, .invokevirtual 387, 3), (176, .ifCond .ne 5, 3), (179, .iconst 0, 1), (180, .ireturn, 1), (181, .aload_n 0, 1), (182, .getfield 94, 3), (185, .iload_n 2, 1), (186, .aload_n 0, 1), (187, .getfield 347, 3), (190, .iastore, 1), (191, .iconst 1, 1), (192, .ireturn, 1), (193, .aload_n 0, 1), (194, .iconst 0, 1), (195, .sipush 9999, 3), (198, .invokevirtual 387, 3), (201, .ifCond .ne 5, 3), (204, .iconst 0, 1), (205, .ireturn, 1), (206, .aload_n 0, 1), (207, .getfield 91, 3), (210, .iload_n 2, 1), (211, .aload_n 0, 1), (212, .getfield 347, 3), (215, .iastore, 1), (216, .iconst 1, 1), (217, .ireturn, 1), (218, .aload_n 0, 1), (219, .invokevirtual 370, 3), (222, .ifCond .ne 5, 3), (225, .iconst 0, 1), (226, .ireturn, 1), (227, .aload_n 0, 1), (228, .getfield 109, 3), (231, .iload_n 2, 1), (232, .aload_n 0, 1), (233, .getfield 350, 3), (236, .iastore, 1), (237, .aload_n 0, 1), (238, .getfield 314, 3), (241, .bipush 15, 2), (243, .if_icmp .eq 5, 3), (246, .iconst 1, 1), (247, .ireturn, 1), (248, .aload_n 0, 1), (249, .invokevirtual 344, 3), (252, .aload_n 0, 1), (253, .invokevirtual 394, 3), (256, .ireturn, 1), (257, .aload_n 0, 1), (258, .bipush 15, 2), (260, .invokevirtual 373, 3), (263, .ifCond .eq 14, 3), (266, .aload_n 0, 1), (267, .invokevirtual 394, 3), (270, .ifCond .eq 7, 3), (273, .iconst 1, 1), (274, .goto 4, 3), (277, .iconst 0, 1), (278, .ireturn, 1)]
theorem D_Model_inner (i : Nat) {pc len : Nat} {ins : Instr} (hi : tb_Model_inner[i]? = some (pc, ins, len)) : decode M_Model_inner.2.1 pc = .ok (ins, len) := dec_of (by decide +kernel) i hi
def f_Model_inner_L170 (G : GS) (x2 : Int) (s0 : Int) : Option (Int × GS) :=
  (f_Model_aNumber G s0 99999).bind fun q1 =>
  if q1.1 = 0 then
    some (0, q1.2)
  else
    gd (0 ≤ x2 ∧ x2 < 30) <|
    wG (si q1.2 110 x2.toNat (gi q1.2 81 54)) fun G1 =>
    some (1, G1)
theorem s_Model_inner_L170 {X : XT} {r : Int × GS} : ∀ {G : GS} {x2 : Int} {s0 : Int}, wr x2 = x2 → wr s0 = s0 → f_Model_inner_L170 G x2 s0 = some r → J X true 94 0 0 M_Model_inner (Rz r.1 r.2) NC 0 0 170 [(0, rf X 81), (2, vi x2)] [vi s0, rf X 81] G := by
  intro G x2 s0 hx2 hs0 h
  unfold f_Model_inner_L170 at h
  refine j_ldcw (v := 99999) rfl ct_Model_393 (by decide) (D_Model_inner 79 rfl) ?_
  obtain ⟨q1, e1, h⟩ := Option.bind_eq_some_iff.mp h
  refine j_cVz (c_Model_aNumber (hs0) (wr_lit rfl) e1) rfl lk_Model_387 mok_Model_aNumber kd_81 lc_81 rfl (by decide) rfl rfl (Nat.le_of_ble_eq_true rfl) (D_Model_inner 80 rfl) (fun w1 bw1 => ?_)
  refine j_if_ne (tgt := 181) (D_Model_inner 81 rfl) rfl (w1) (fun c1 => ?_) (fun c1 => ?_)
  · replace h := ite_f h c1
    refine j_aloadn (k := 0) (D_Model_inner 84 rfl) rfl rfl ?_
    refine j_getR rfl fa_Model_94 kd_81 lc_81 (by decide) rfl fx_81_32 (by decide) (D_Model_inner 85 rfl) ?_
    refine j_iloadn (k := 1) (D_Model_inner 86 rfl) rfl rfl ?_
    refine j_aloadn (k := 0) (D_Model_inner 87 rfl) rfl rfl ?_
    refine j_getI rfl fa_Model_347 kd_81 lc_81 (by decide) rfl (D_Model_inner 88 rfl) ?_
    have g1 := gd_c h
    replace h := gd_s h
    refine j_iast (NI := 30) (D_Model_inner 89 rfl) kd_110 lc_110 (hx2) rfl g1.1 g1.2 ?_
    refine j_gen (fun G1 e2 => ?_)
    replace h := wG_at h e2
    refine j_iconst (v := 1) (D_Model_inner 90 rfl) rfl ?_
    exact j_zret (D_Model_inner 91 rfl) rfl (wr_lit rfl) (nz_01 (by decide)) rfl rfl (leafZ h (wr_n (wr_lit rfl)) (by decide))
  · replace h := ite_t h c1
    refine j_iconst (v := 0) (D_Model_inner 82 rfl) rfl ?_
    exact j_zret (D_Model_inner 83 rfl) rfl (wr_lit rfl) (nz_01 (by decide)) rfl rfl (leafZ h (wr_n (wr_lit rfl)) (by decide))
def f_Model_inner (G : GS) (a1 : Int) : Option (Int × GS) :=
  if a1 = 3 then
    (f_Model_oneOf G 150 3).bind fun q1 =>
    if q1.1 = 0 then
      some (0, q1.2)
    else
      gd (0 ≤ gi G 81 41 ∧ gi G 81 41 < 30) <|
      wG (si q1.2 109 (gi G 81 41).toNat (gi q1.2 81 54)) fun G1 =>
      gd (0 ≤ gi G 81 41 ∧ gi G 81 41 < 30) <|
      wG (si G1 110 (gi G 81 41).toNat (-1)) fun G2 =>
      if gi G2 81 45 = 10 then
        (f_Model_next0 G2).bind fun q2 =>
        (f_Model_aNumber q2 0 3).bind fun q3 =>
        if q3.1 = 0 then
          some (0, q3.2)
        else
          gd (0 ≤ gi G 81 41 ∧ gi G 81 41 < 30) <|
          wG (si q3.2 110 (gi G 81 41).toNat (gi q3.2 81 54)) fun G3 =>
          some (1, G3)
      else
        some (1, G2)
  else
    if a1 = 4 then
      (f_Model_aWard G).bind fun q4 =>
      some (q4.1, q4.2)
    else
      if a1 = 5 then
        (f_Model_aNumber G 0 99999).bind fun q5 =>
        if q5.1 = 0 then
          some (0, q5.2)
        else
          gd (0 ≤ gi G 81 41 ∧ gi G 81 41 < 30) <|
          wG (si q5.2 109 (gi G 81 41).toNat (gi q5.2 81 54)) fun G4 =>
          (f_Model_need G4 14).bind fun q6 =>
          if q6.1 = 0 then
            some (0, q6.2)
          else
            gd (0 ≤ gi G 81 41 ∧ gi G 81 41 < 30) <|
            if gi q6.2 109 (gi G 81 41).toNat ≤ 1 then
              f_Model_inner_L170 q6.2 (gi G 81 41) 1
            else
              gd (0 ≤ gi G 81 41 ∧ gi G 81 41 < 30) <|
              f_Model_inner_L170 q6.2 (gi G 81 41) (gi q6.2 109 (gi G 81 41).toNat)
      else
        if a1 = 6 then
          (f_Model_aNumber G 0 9999).bind fun q7 =>
          if q7.1 = 0 then
            some (0, q7.2)
          else
            gd (0 ≤ gi G 81 41 ∧ gi G 81 41 < 30) <|
            wG (si q7.2 109 (gi G 81 41).toNat (gi q7.2 81 54)) fun G5 =>
            some (1, G5)
        else
          if a1 = 7 then
            (f_Model_aNumber G 0 9999).bind fun q8 =>
            if q8.1 = 0 then
              some (0, q8.2)
            else
              gd (0 ≤ gi G 81 41 ∧ gi G 81 41 < 30) <|
              wG (si q8.2 109 (gi G 81 41).toNat (gi q8.2 81 54)) fun G6 =>
              some (1, G6)
          else
            if a1 = 8 then
              (f_Model_sumOfC G).bind fun q9 =>
              if q9.1 = 0 then
                some (0, q9.2)
              else
                gd (0 ≤ gi G 81 41 ∧ gi G 81 41 < 30) <|
                wG (si q9.2 115 (gi G 81 41).toNat (gi q9.2 81 42)) fun G7 =>
                if gi G7 81 45 = 15 then
                  (f_Model_next0 G7).bind fun q10 =>
                  (f_Model_any q10).bind fun q11 =>
                  some (q11.1, q11.2)
                else
                  some (1, G7)
            else
              (f_Model_need G 15).bind fun q12 =>
              if q12.1 = 0 then
                some (0, q12.2)
              else
                (f_Model_any q12.2).bind fun q13 =>
                if q13.1 = 0 then
                  some (0, q13.2)
                else
                  some (1, q13.2)
theorem c_Model_inner {X : XT} {G : GS} {a1 : Int} {r : Int × GS} (ha1 : wr a1 = a1) (h : f_Model_inner G a1 = some r) : Call X true 94 0 0 M_Model_inner [rf X 81, vi a1] NC G (Rz r.1 r.2) := by
  refine Call_of_J cw_Model_inner (by decide +kernel) (Nat.le_of_ble_eq_true rfl) ?_
  unfold f_Model_inner at h
  show J X true 94 0 0 M_Model_inner (Rz r.1 r.2) NC 0 0 0 [(0, rf X 81), (1, vi a1)] [] G
  refine j_aloadn (k := 0) (D_Model_inner 0 rfl) rfl rfl ?_
  refine j_getI rfl fa_Model_381 kd_81 lc_81 (by decide) rfl (D_Model_inner 1 rfl) ?_
  refine j_istoren (L' := [(2, vi (gi G 81 41)), (0, rf X 81), (1, vi a1)]) (D_Model_inner 2 rfl) rfl (wr_gi _ _ _) (by decide) rfl ?_
  refine j_iloadn (k := 2) (D_Model_inner 3 rfl) rfl rfl ?_
  by_cases c1 : a1 = 3
  · replace h := ite_t h c1
    refine j_tIn (tgt := 44) (D_Model_inner 4 rfl) (ha1) c1 (by decide) (by decide) rfl rfl ?_
    refine j_aloadn (k := 1) (D_Model_inner 5 rfl) rfl rfl ?_
    refine j_sipush (v := 150) (D_Model_inner 6 rfl) rfl ?_
    refine j_iconst (v := 3) (D_Model_inner 7 rfl) rfl ?_
    obtain ⟨q1, e1, h⟩ := Option.bind_eq_some_iff.mp h
    refine j_cVz (c_Model_oneOf (wr_lit rfl) (wr_lit rfl) e1) rfl lk_Model_384 mok_Model_oneOf kd_81 lc_81 rfl (by decide) rfl rfl (Nat.le_of_ble_eq_true rfl) (D_Model_inner 8 rfl) (fun w1 bw1 => ?_)
    refine j_if_ne (tgt := 57) (D_Model_inner 9 rfl) rfl (w1) (fun c2 => ?_) (fun c2 => ?_)
    · replace h := ite_f h c2
      refine j_aloadn (k := 1) (D_Model_inner 12 rfl) rfl rfl ?_
      refine j_getR rfl fa_Model_91 kd_81 lc_81 (by decide) rfl fx_81_31 (by decide) (D_Model_inner 13 rfl) ?_
      refine j_iloadn (k := 0) (D_Model_inner 14 rfl) rfl rfl ?_
      refine j_aloadn (k := 1) (D_Model_inner 15 rfl) rfl rfl ?_
      refine j_getI rfl fa_Model_347 kd_81 lc_81 (by decide) rfl (D_Model_inner 16 rfl) ?_
      have g1 := gd_c h
      replace h := gd_s h
      refine j_iast (NI := 30) (D_Model_inner 17 rfl) kd_109 lc_109 (wr_gi _ _ _) rfl g1.1 g1.2 ?_
      refine j_gen (fun G1 e2 => ?_)
      replace h := wG_at h e2
      refine j_aloadn (k := 1) (D_Model_inner 18 rfl) rfl rfl ?_
      refine j_getR rfl fa_Model_94 kd_81 lc_81 (by decide) rfl fx_81_32 (by decide) (D_Model_inner 19 rfl) ?_
      refine j_iloadn (k := 0) (D_Model_inner 20 rfl) rfl rfl ?_
      refine j_iconst (v := (-1)) (D_Model_inner 21 rfl) rfl ?_
      have g2 := gd_c h
      replace h := gd_s h
      refine j_iast (NI := 30) (D_Model_inner 22 rfl) kd_110 lc_110 (wr_gi _ _ _) rfl g2.1 g2.2 ?_
      refine j_gen (fun G2 e3 => ?_)
      replace h := wG_at h e3
      refine j_aloadn (k := 1) (D_Model_inner 23 rfl) rfl rfl ?_
      refine j_getI rfl fa_Model_314 kd_81 lc_81 (by decide) rfl (D_Model_inner 24 rfl) ?_
      refine j_bipush (v := 10) (D_Model_inner 25 rfl) rfl ?_
      refine j_ic_eq (tgt := 85) (D_Model_inner 26 rfl) rfl (wr_gi _ _ _) (wr_lit rfl) (fun c3 => ?_) (fun c3 => ?_)
      · replace h := ite_t h c3
        refine j_aloadn (k := 1) (D_Model_inner 29 rfl) rfl rfl ?_
        obtain ⟨q2, e4, h⟩ := Option.bind_eq_some_iff.mp h
        refine j_cVv (c_Model_next0 e4) rfl lk_Model_344 mok_Model_next0 kd_81 lc_81 rfl (by decide) rfl rfl (Nat.le_of_ble_eq_true rfl) (D_Model_inner 30 rfl) ?_
        refine j_aloadn (k := 1) (D_Model_inner 31 rfl) rfl rfl ?_
        refine j_iconst (v := 0) (D_Model_inner 32 rfl) rfl ?_
        refine j_iconst (v := 3) (D_Model_inner 33 rfl) rfl ?_
        obtain ⟨q3, e5, h⟩ := Option.bind_eq_some_iff.mp h
        refine j_cVz (c_Model_aNumber (wr_lit rfl) (wr_lit rfl) e5) rfl lk_Model_387 mok_Model_aNumber kd_81 lc_81 rfl (by decide) rfl rfl (Nat.le_of_ble_eq_true rfl) (D_Model_inner 34 rfl) (fun w2 bw2 => ?_)
        refine j_if_ne (tgt := 100) (D_Model_inner 35 rfl) rfl (w2) (fun c4 => ?_) (fun c4 => ?_)
        · replace h := ite_f h c4
          refine j_aloadn (k := 1) (D_Model_inner 38 rfl) rfl rfl ?_
          refine j_getR rfl fa_Model_94 kd_81 lc_81 (by decide) rfl fx_81_32 (by decide) (D_Model_inner 39 rfl) ?_
          refine j_iloadn (k := 0) (D_Model_inner 40 rfl) rfl rfl ?_
          refine j_aloadn (k := 1) (D_Model_inner 41 rfl) rfl rfl ?_
          refine j_getI rfl fa_Model_347 kd_81 lc_81 (by decide) rfl (D_Model_inner 42 rfl) ?_
          have g3 := gd_c h
          replace h := gd_s h
          refine j_iast (NI := 30) (D_Model_inner 43 rfl) kd_110 lc_110 (wr_gi _ _ _) rfl g3.1 g3.2 ?_
          refine j_gen (fun G3 e6 => ?_)
          replace h := wG_at h e6
          refine j_iconst (v := 1) (D_Model_inner 44 rfl) rfl ?_
          exact j_zret (D_Model_inner 45 rfl) rfl (wr_lit rfl) (nz_01 (by decide)) rfl rfl (leafZ h (wr_n (wr_lit rfl)) (by decide))
        · replace h := ite_t h c4
          refine j_iconst (v := 0) (D_Model_inner 36 rfl) rfl ?_
          exact j_zret (D_Model_inner 37 rfl) rfl (wr_lit rfl) (nz_01 (by decide)) rfl rfl (leafZ h (wr_n (wr_lit rfl)) (by decide))
      · replace h := ite_f h c3
        refine j_iconst (v := 1) (D_Model_inner 27 rfl) rfl ?_
        exact j_zret (D_Model_inner 28 rfl) rfl (wr_lit rfl) (nz_01 (by decide)) rfl rfl (leafZ h (wr_n (wr_lit rfl)) (by decide))
    · replace h := ite_t h c2
      refine j_iconst (v := 0) (D_Model_inner 10 rfl) rfl ?_
      exact j_zret (D_Model_inner 11 rfl) rfl (wr_lit rfl) (nz_01 (by decide)) rfl rfl (leafZ h (wr_n (wr_lit rfl)) (by decide))
  · replace h := ite_f h c1
    by_cases c5 : a1 = 4
    · replace h := ite_t h c5
      refine j_tIn (tgt := 112) (D_Model_inner 4 rfl) (ha1) c5 (by decide) (by decide) rfl rfl ?_
      refine j_aloadn (k := 1) (D_Model_inner 46 rfl) rfl rfl ?_
      obtain ⟨q4, e7, h⟩ := Option.bind_eq_some_iff.mp h
      refine j_cVz (c_Model_aWard e7) rfl lk_Model_390 mok_Model_aWard kd_81 lc_81 rfl (by decide) rfl rfl (Nat.le_of_ble_eq_true rfl) (D_Model_inner 47 rfl) (fun w3 bw3 => ?_)
      exact j_zret (D_Model_inner 48 rfl) rfl (w3) (nz_01 bw3) rfl rfl (leafZ h (wr_n (w3)) bw3)
    · replace h := ite_f h c5
      by_cases c6 : a1 = 5
      · replace h := ite_t h c6
        refine j_tIn (tgt := 117) (D_Model_inner 4 rfl) (ha1) c6 (by decide) (by decide) rfl rfl ?_
        refine j_aloadn (k := 1) (D_Model_inner 49 rfl) rfl rfl ?_
        refine j_iconst (v := 0) (D_Model_inner 50 rfl) rfl ?_
        refine j_ldcw (v := 99999) rfl ct_Model_393 (by decide) (D_Model_inner 51 rfl) ?_
        obtain ⟨q5, e8, h⟩ := Option.bind_eq_some_iff.mp h
        refine j_cVz (c_Model_aNumber (wr_lit rfl) (wr_lit rfl) e8) rfl lk_Model_387 mok_Model_aNumber kd_81 lc_81 rfl (by decide) rfl rfl (Nat.le_of_ble_eq_true rfl) (D_Model_inner 52 rfl) (fun w4 bw4 => ?_)
        refine j_if_ne (tgt := 130) (D_Model_inner 53 rfl) rfl (w4) (fun c7 => ?_) (fun c7 => ?_)
        · replace h := ite_f h c7
          refine j_aloadn (k := 1) (D_Model_inner 56 rfl) rfl rfl ?_
          refine j_getR rfl fa_Model_91 kd_81 lc_81 (by decide) rfl fx_81_31 (by decide) (D_Model_inner 57 rfl) ?_
          refine j_iloadn (k := 0) (D_Model_inner 58 rfl) rfl rfl ?_
          refine j_aloadn (k := 1) (D_Model_inner 59 rfl) rfl rfl ?_
          refine j_getI rfl fa_Model_347 kd_81 lc_81 (by decide) rfl (D_Model_inner 60 rfl) ?_
          have g4 := gd_c h
          replace h := gd_s h
          refine j_iast (NI := 30) (D_Model_inner 61 rfl) kd_109 lc_109 (wr_gi _ _ _) rfl g4.1 g4.2 ?_
          refine j_gen (fun G4 e9 => ?_)
          replace h := wG_at h e9
          refine j_aloadn (k := 1) (D_Model_inner 62 rfl) rfl rfl ?_
          refine j_bipush (v := 14) (D_Model_inner 63 rfl) rfl ?_
          obtain ⟨q6, e10, h⟩ := Option.bind_eq_some_iff.mp h
          refine j_cVz (c_Model_need (wr_lit rfl) e10) rfl lk_Model_373 mok_Model_need kd_81 lc_81 rfl (by decide) rfl rfl (Nat.le_of_ble_eq_true rfl) (D_Model_inner 64 rfl) (fun w5 bw5 => ?_)
          refine j_if_eq (tgt := 179) (D_Model_inner 65 rfl) rfl (w5) (fun c8 => ?_) (fun c8 => ?_)
          · replace h := ite_t h c8
            refine j_iconst (v := 0) (D_Model_inner 82 rfl) rfl ?_
            exact j_zret (D_Model_inner 83 rfl) rfl (wr_lit rfl) (nz_01 (by decide)) rfl rfl (leafZ h (wr_n (wr_lit rfl)) (by decide))
          · replace h := ite_f h c8
            refine j_aloadn (k := 1) (D_Model_inner 66 rfl) rfl rfl ?_
            refine j_aloadn (k := 1) (D_Model_inner 67 rfl) rfl rfl ?_
            refine j_getR rfl fa_Model_91 kd_81 lc_81 (by decide) rfl fx_81_31 (by decide) (D_Model_inner 68 rfl) ?_
            refine j_iloadn (k := 0) (D_Model_inner 69 rfl) rfl rfl ?_
            have g5 := gd_c h
            replace h := gd_s h
            refine j_iald (NI := 30) (D_Model_inner 70 rfl) kd_109 lc_109 (wr_gi _ _ _) rfl g5.1 g5.2 ?_
            refine j_iconst (v := 1) (D_Model_inner 71 rfl) rfl ?_
            refine j_ic_le (tgt := 169) (D_Model_inner 72 rfl) rfl (wr_gi _ _ _) (wr_lit rfl) (fun c9 => ?_) (fun c9 => ?_)
            · replace h := ite_t h c9
              refine j_iconst (v := 1) (D_Model_inner 78 rfl) rfl ?_
              refine j_loc [1, 0] rfl ?_
              exact s_Model_inner_L170 (wr_gi _ _ _) (wr_lit rfl) h
            · replace h := ite_f h c9
              refine j_aloadn (k := 1) (D_Model_inner 73 rfl) rfl rfl ?_
              refine j_getR rfl fa_Model_91 kd_81 lc_81 (by decide) rfl fx_81_31 (by decide) (D_Model_inner 74 rfl) ?_
              refine j_iloadn (k := 0) (D_Model_inner 75 rfl) rfl rfl ?_
              have g6 := gd_c h
              replace h := gd_s h
              refine j_iald (NI := 30) (D_Model_inner 76 rfl) kd_109 lc_109 (wr_gi _ _ _) rfl g6.1 g6.2 ?_
              refine j_goto (tgt := 170) (D_Model_inner 77 rfl) rfl ?_
              refine j_loc [1, 0] rfl ?_
              exact s_Model_inner_L170 (wr_gi _ _ _) (wr_gi _ _ _) h
        · replace h := ite_t h c7
          refine j_iconst (v := 0) (D_Model_inner 54 rfl) rfl ?_
          exact j_zret (D_Model_inner 55 rfl) rfl (wr_lit rfl) (nz_01 (by decide)) rfl rfl (leafZ h (wr_n (wr_lit rfl)) (by decide))
      · replace h := ite_f h c6
        by_cases c10 : a1 = 6
        · replace h := ite_t h c10
          refine j_tIn (tgt := 193) (D_Model_inner 4 rfl) (ha1) c10 (by decide) (by decide) rfl rfl ?_
          refine j_aloadn (k := 1) (D_Model_inner 92 rfl) rfl rfl ?_
          refine j_iconst (v := 0) (D_Model_inner 93 rfl) rfl ?_
          refine j_sipush (v := 9999) (D_Model_inner 94 rfl) rfl ?_
          obtain ⟨q7, e11, h⟩ := Option.bind_eq_some_iff.mp h
          refine j_cVz (c_Model_aNumber (wr_lit rfl) (wr_lit rfl) e11) rfl lk_Model_387 mok_Model_aNumber kd_81 lc_81 rfl (by decide) rfl rfl (Nat.le_of_ble_eq_true rfl) (D_Model_inner 95 rfl) (fun w6 bw6 => ?_)
          refine j_if_ne (tgt := 206) (D_Model_inner 96 rfl) rfl (w6) (fun c11 => ?_) (fun c11 => ?_)
          · replace h := ite_f h c11
            refine j_aloadn (k := 1) (D_Model_inner 99 rfl) rfl rfl ?_
            refine j_getR rfl fa_Model_91 kd_81 lc_81 (by decide) rfl fx_81_31 (by decide) (D_Model_inner 100 rfl) ?_
            refine j_iloadn (k := 0) (D_Model_inner 101 rfl) rfl rfl ?_
            refine j_aloadn (k := 1) (D_Model_inner 102 rfl) rfl rfl ?_
            refine j_getI rfl fa_Model_347 kd_81 lc_81 (by decide) rfl (D_Model_inner 103 rfl) ?_
            have g7 := gd_c h
            replace h := gd_s h
            refine j_iast (NI := 30) (D_Model_inner 104 rfl) kd_109 lc_109 (wr_gi _ _ _) rfl g7.1 g7.2 ?_
            refine j_gen (fun G5 e12 => ?_)
            replace h := wG_at h e12
            refine j_iconst (v := 1) (D_Model_inner 105 rfl) rfl ?_
            exact j_zret (D_Model_inner 106 rfl) rfl (wr_lit rfl) (nz_01 (by decide)) rfl rfl (leafZ h (wr_n (wr_lit rfl)) (by decide))
          · replace h := ite_t h c11
            refine j_iconst (v := 0) (D_Model_inner 97 rfl) rfl ?_
            exact j_zret (D_Model_inner 98 rfl) rfl (wr_lit rfl) (nz_01 (by decide)) rfl rfl (leafZ h (wr_n (wr_lit rfl)) (by decide))
        · replace h := ite_f h c10
          by_cases c12 : a1 = 7
          · replace h := ite_t h c12
            refine j_tIn (tgt := 193) (D_Model_inner 4 rfl) (ha1) c12 (by decide) (by decide) rfl rfl ?_
            refine j_aloadn (k := 1) (D_Model_inner 92 rfl) rfl rfl ?_
            refine j_iconst (v := 0) (D_Model_inner 93 rfl) rfl ?_
            refine j_sipush (v := 9999) (D_Model_inner 94 rfl) rfl ?_
            obtain ⟨q8, e13, h⟩ := Option.bind_eq_some_iff.mp h
            refine j_cVz (c_Model_aNumber (wr_lit rfl) (wr_lit rfl) e13) rfl lk_Model_387 mok_Model_aNumber kd_81 lc_81 rfl (by decide) rfl rfl (Nat.le_of_ble_eq_true rfl) (D_Model_inner 95 rfl) (fun w7 bw7 => ?_)
            refine j_if_ne (tgt := 206) (D_Model_inner 96 rfl) rfl (w7) (fun c13 => ?_) (fun c13 => ?_)
            · replace h := ite_f h c13
              refine j_aloadn (k := 1) (D_Model_inner 99 rfl) rfl rfl ?_
              refine j_getR rfl fa_Model_91 kd_81 lc_81 (by decide) rfl fx_81_31 (by decide) (D_Model_inner 100 rfl) ?_
              refine j_iloadn (k := 0) (D_Model_inner 101 rfl) rfl rfl ?_
              refine j_aloadn (k := 1) (D_Model_inner 102 rfl) rfl rfl ?_
              refine j_getI rfl fa_Model_347 kd_81 lc_81 (by decide) rfl (D_Model_inner 103 rfl) ?_
              have g8 := gd_c h
              replace h := gd_s h
              refine j_iast (NI := 30) (D_Model_inner 104 rfl) kd_109 lc_109 (wr_gi _ _ _) rfl g8.1 g8.2 ?_
              refine j_gen (fun G6 e14 => ?_)
              replace h := wG_at h e14
              refine j_iconst (v := 1) (D_Model_inner 105 rfl) rfl ?_
              exact j_zret (D_Model_inner 106 rfl) rfl (wr_lit rfl) (nz_01 (by decide)) rfl rfl (leafZ h (wr_n (wr_lit rfl)) (by decide))
            · replace h := ite_t h c13
              refine j_iconst (v := 0) (D_Model_inner 97 rfl) rfl ?_
              exact j_zret (D_Model_inner 98 rfl) rfl (wr_lit rfl) (nz_01 (by decide)) rfl rfl (leafZ h (wr_n (wr_lit rfl)) (by decide))
          · replace h := ite_f h c12
            by_cases c14 : a1 = 8
            · replace h := ite_t h c14
              refine j_tIn (tgt := 218) (D_Model_inner 4 rfl) (ha1) c14 (by decide) (by decide) rfl rfl ?_
              refine j_aloadn (k := 1) (D_Model_inner 107 rfl) rfl rfl ?_
              obtain ⟨q9, e15, h⟩ := Option.bind_eq_some_iff.mp h
              refine j_cVz (c_Model_sumOfC e15) rfl lk_Model_370 mok_Model_sumOf kd_81 lc_81 rfl (by decide) rfl rfl (Nat.le_of_ble_eq_true rfl) (D_Model_inner 108 rfl) (fun w8 bw8 => ?_)
              refine j_if_ne (tgt := 227) (D_Model_inner 109 rfl) rfl (w8) (fun c15 => ?_) (fun c15 => ?_)
              · replace h := ite_f h c15
                refine j_aloadn (k := 1) (D_Model_inner 112 rfl) rfl rfl ?_
                refine j_getR rfl fa_Model_109 kd_81 lc_81 (by decide) rfl fx_81_37 (by decide) (D_Model_inner 113 rfl) ?_
                refine j_iloadn (k := 0) (D_Model_inner 114 rfl) rfl rfl ?_
                refine j_aloadn (k := 1) (D_Model_inner 115 rfl) rfl rfl ?_
                refine j_getI rfl fa_Model_350 kd_81 lc_81 (by decide) rfl (D_Model_inner 116 rfl) ?_
                have g9 := gd_c h
                replace h := gd_s h
                refine j_iast (NI := 30) (D_Model_inner 117 rfl) kd_115 lc_115 (wr_gi _ _ _) rfl g9.1 g9.2 ?_
                refine j_gen (fun G7 e16 => ?_)
                replace h := wG_at h e16
                refine j_aloadn (k := 1) (D_Model_inner 118 rfl) rfl rfl ?_
                refine j_getI rfl fa_Model_314 kd_81 lc_81 (by decide) rfl (D_Model_inner 119 rfl) ?_
                refine j_bipush (v := 15) (D_Model_inner 120 rfl) rfl ?_
                refine j_ic_eq (tgt := 248) (D_Model_inner 121 rfl) rfl (wr_gi _ _ _) (wr_lit rfl) (fun c16 => ?_) (fun c16 => ?_)
                · replace h := ite_t h c16
                  refine j_aloadn (k := 1) (D_Model_inner 124 rfl) rfl rfl ?_
                  obtain ⟨q10, e17, h⟩ := Option.bind_eq_some_iff.mp h
                  refine j_cVv (c_Model_next0 e17) rfl lk_Model_344 mok_Model_next0 kd_81 lc_81 rfl (by decide) rfl rfl (Nat.le_of_ble_eq_true rfl) (D_Model_inner 125 rfl) ?_
                  refine j_aloadn (k := 1) (D_Model_inner 126 rfl) rfl rfl ?_
                  obtain ⟨q11, e18, h⟩ := Option.bind_eq_some_iff.mp h
                  refine j_cVz (c_Model_any e18) rfl lk_Model_394 mok_Model_any kd_81 lc_81 rfl (by decide) rfl rfl (Nat.le_of_ble_eq_true rfl) (D_Model_inner 127 rfl) (fun w9 bw9 => ?_)
                  exact j_zret (D_Model_inner 128 rfl) rfl (w9) (nz_01 bw9) rfl rfl (leafZ h (wr_n (w9)) bw9)
                · replace h := ite_f h c16
                  refine j_iconst (v := 1) (D_Model_inner 122 rfl) rfl ?_
                  exact j_zret (D_Model_inner 123 rfl) rfl (wr_lit rfl) (nz_01 (by decide)) rfl rfl (leafZ h (wr_n (wr_lit rfl)) (by decide))
              · replace h := ite_t h c15
                refine j_iconst (v := 0) (D_Model_inner 110 rfl) rfl ?_
                exact j_zret (D_Model_inner 111 rfl) rfl (wr_lit rfl) (nz_01 (by decide)) rfl rfl (leafZ h (wr_n (wr_lit rfl)) (by decide))
            · replace h := ite_f h c14
              refine j_tOut (tgt := 257) (D_Model_inner 4 rfl) (ha1) (by omega) rfl ?_
              refine j_aloadn (k := 1) (D_Model_inner 129 rfl) rfl rfl ?_
              refine j_bipush (v := 15) (D_Model_inner 130 rfl) rfl ?_
              obtain ⟨q12, e19, h⟩ := Option.bind_eq_some_iff.mp h
              refine j_cVz (c_Model_need (wr_lit rfl) e19) rfl lk_Model_373 mok_Model_need kd_81 lc_81 rfl (by decide) rfl rfl (Nat.le_of_ble_eq_true rfl) (D_Model_inner 131 rfl) (fun w10 bw10 => ?_)
              refine j_if_eq (tgt := 277) (D_Model_inner 132 rfl) rfl (w10) (fun c17 => ?_) (fun c17 => ?_)
              · replace h := ite_t h c17
                refine j_iconst (v := 0) (D_Model_inner 138 rfl) rfl ?_
                exact j_zret (D_Model_inner 139 rfl) rfl (wr_lit rfl) (nz_01 (by decide)) rfl rfl (leafZ h (wr_n (wr_lit rfl)) (by decide))
              · replace h := ite_f h c17
                refine j_aloadn (k := 1) (D_Model_inner 133 rfl) rfl rfl ?_
                obtain ⟨q13, e20, h⟩ := Option.bind_eq_some_iff.mp h
                refine j_cVz (c_Model_any e20) rfl lk_Model_394 mok_Model_any kd_81 lc_81 rfl (by decide) rfl rfl (Nat.le_of_ble_eq_true rfl) (D_Model_inner 134 rfl) (fun w11 bw11 => ?_)
                refine j_if_eq (tgt := 277) (D_Model_inner 135 rfl) rfl (w11) (fun c18 => ?_) (fun c18 => ?_)
                · replace h := ite_t h c18
                  refine j_iconst (v := 0) (D_Model_inner 138 rfl) rfl ?_
                  exact j_zret (D_Model_inner 139 rfl) rfl (wr_lit rfl) (nz_01 (by decide)) rfl rfl (leafZ h (wr_n (wr_lit rfl)) (by decide))
                · replace h := ite_f h c18
                  refine j_iconst (v := 1) (D_Model_inner 136 rfl) rfl ?_
                  refine j_goto (tgt := 278) (D_Model_inner 137 rfl) rfl ?_
                  exact j_zret (D_Model_inner 139 rfl) rfl (wr_lit rfl) (nz_01 (by decide)) rfl rfl (leafZ h (wr_n (wr_lit rfl)) (by decide))
abbrev M_Model_aLine : MI := (⟨"InquestHallModel", "aLine", "()Z"⟩, prog_14_method_46_code, 1, (some .boolean))
theorem cw_Model_aLine : Cond.code M_Model_aLine.1 M_Model_aLine.2.1 M_Model_aLine.2.2.1 M_Model_aLine.2.2.2 ∈ TS := mTS (List.mem_of_getElem? (i := 1713) (by decide +kernel)) (by decide +kernel)
theorem fa_Model_103 : FA "InquestHallModel" 103 12 35 true (.array .int) := ⟨_, _, _, _, ok_Model, by decide, mTS (List.mem_of_getElem? (i := 1336) (by decide +kernel)) (by decide +kernel), rfl, rfl⟩
theorem fx_81_35 {G : GS} (w : WF true NC G) : G.2.2 81 35 = 113 := w.2 rfl (81, 35, 113) (by decide)
theorem kd_113 : kd 113 = (0, 30) := rfl
theorem lc_113 : 113 < NC := by decide
theorem fa_Model_106 : FA "InquestHallModel" 106 12 36 true (.array .int) := ⟨_, _, _, _, ok_Model, by decide, mTS (List.mem_of_getElem? (i := 1337) (by decide +kernel)) (by decide +kernel), rfl, rfl⟩
theorem fx_81_36 {G : GS} (w : WF true NC G) : G.2.2 81 36 = 114 := w.2 rfl (81, 36, 114) (by decide)
theorem kd_114 : kd 114 = (0, 31) := rfl
theorem lc_114 : 114 < NC := by decide
theorem lk_Model_397 : Cond.methodLink "InquestHallModel" 397 M_Model_inner.1 ∈ TS := mTS (List.mem_of_getElem? (i := 1718) (by decide +kernel)) (by decide +kernel)
theorem mok_Model_inner : MOK M_Model_inner 1 := ⟨mTS (List.mem_of_getElem? (i := 1720) (by decide +kernel)) (by decide +kernel), mTS (List.mem_of_getElem? (i := 73) (by decide +kernel)) (by decide +kernel), mTS (List.mem_of_getElem? (i := 139) (by decide +kernel)) (by decide +kernel), cw_Model_inner, ⟨by decide, by decide, by decide +kernel⟩, by decide +kernel, by decide⟩
def tb_Model_aLine : List (Nat × Instr × Nat) := [(0, .aload_n 0, 1), (1, .getfield 314, 3), (4, .iconst 3, 1), (5, .bipush 9, 2), (7, .invokestatic 188, 3), (10, .ifCond .ne 9, 3), (13, .aload_n 0, 1), (14, .iconst 1, 1), (15, .invokevirtual 341, 3), (18, .ireturn, 1), (19, .aload_n 0, 1), (20, .getfield 381, 3), (23, .bipush 30, 2), (25, .if_icmp .ne 9, 3), (28, .aload_n 0, 1), (29, .iconst 3, 1), (30, .invokevirtual 341, 3), (33, .ireturn, 1), (34, .aload_n 0, 1), (35, .getfield 103, 3), (38, .aload_n 0, 1), (39, .getfield 381, 3), (42, .aload_n 0, 1), (43, .getfield 314, 3), (46, .iastore, 1), (47, .aload_n 0, 1), (48, .getfield 106, 3), (51, .aload_n 0, 1), (52, .getfield 381, 3), (55, .aload_n 0, 1), (56, .getfield 350, 3), (59, .iastore, 1), (60, .aload_n 0, 1), (61, .getfield 109, 3), (64, .aload_n 0, 1), (65, .getfield 381, 3), (68, .aload_n 0, 1), (69, .getfield 350, 3), (72, .iastore, 1), (73, .aload_n 0, 1), (74, .iconst 0, 1), (75, .putfield 353, 3), (78, .aload_n 0, 1), (79, .invokevirtual 344, 3), (82, .aload_n 0, 1), (83, .aload_n 0, 1), (84, .getfield 103, 3), (87, .aload_n 0, 1), (88, .getfield 381, 3), (91, .iaload, 1), (92, .invokevirtual 397, 3), (95, .ifCond .ne 5, 3), (98, .iconst 0, 1), (99, .ireturn, 1), (100, .aload_n 0, 1), (101, .dup, 1), (102, .getfield 381, 3), (105, .iconst 1, 1), (106, .iadd, 1), (107, .putfield 381, 3), (110, .aload_n 0, 1), (111, .bipush 59, 2), (113, .invokevirtual 373, 3), (116, .ireturn, 1)]
theorem D_Model_aLine (i : Nat) {pc len : Nat} {ins : Instr} (hi : tb_Model_aLine[i]? = some (pc, ins, len)) : decode M_Model_aLine.2.1 pc = .ok (ins, len) := dec_of (by decide +kernel) i hi
def f_Model_aLine (G : GS) : Option (Int × GS) :=
  (f_Model_isIn G (gi G 81 45) 3 9).bind fun q1 =>
  if q1 = 0 then
    (f_Model_bad G 1).bind fun q6 =>
    some (q6.1, q6.2)
  else
    if gi G 81 41 = 30 then
      (f_Model_bad G 3).bind fun q5 =>
      some (q5.1, q5.2)
    else
      gd (0 ≤ gi G 81 41 ∧ gi G 81 41 < 30) <|
      wG (si G 113 (gi G 81 41).toNat (gi G 81 45)) fun G1 =>
      gd (0 ≤ gi G1 81 41 ∧ gi G1 81 41 < 31) <|
      wG (si G1 114 (gi G1 81 41).toNat (gi G1 81 42)) fun G2 =>
      gd (0 ≤ gi G2 81 41 ∧ gi G2 81 41 < 30) <|
      wG (si G2 115 (gi G2 81 41).toNat (gi G2 81 42)) fun G3 =>
      wG (si G3 81 51 0) fun G4 =>
      (f_Model_next0 G4).bind fun q2 =>
      gd (0 ≤ gi q2 81 41 ∧ gi q2 81 41 < 30) <|
      (f_Model_inner q2 (gi q2 113 (gi q2 81 41).toNat)).bind fun q3 =>
      if q3.1 = 0 then
        some (0, q3.2)
      else
        wG (si q3.2 81 41 ((gi q3.2 81 41) + 1)) fun G5 =>
        (f_Model_need G5 59).bind fun q4 =>
        some (q4.1, q4.2)
theorem c_Model_aLine {X : XT} {G : GS} {r : Int × GS} (h : f_Model_aLine G = some r) : Call X true 95 0 0 M_Model_aLine [rf X 81] NC G (Rz r.1 r.2) := by
  refine Call_of_J cw_Model_aLine (by decide +kernel) (Nat.le_of_ble_eq_true rfl) ?_
  unfold f_Model_aLine at h
  show J X true 95 0 0 M_Model_aLine (Rz r.1 r.2) NC 0 0 0 [(0, rf X 81)] [] G
  refine j_aloadn (k := 0) (D_Model_aLine 0 rfl) rfl rfl ?_
  refine j_getI rfl fa_Model_314 kd_81 lc_81 (by decide) rfl (D_Model_aLine 1 rfl) ?_
  refine j_iconst (v := 3) (D_Model_aLine 2 rfl) rfl ?_
  refine j_bipush (v := 9) (D_Model_aLine 3 rfl) rfl ?_
  obtain ⟨q1, e1, h⟩ := Option.bind_eq_some_iff.mp h
  refine j_cSz (c_Model_isIn (wr_gi _ _ _) (wr_lit rfl) (wr_lit rfl) e1) rfl lk_Model_188 sok_Model_isIn (by decide) rfl rfl (Nat.le_of_ble_eq_true rfl) (D_Model_aLine 4 rfl) (fun w1 bw1 => ?_)
  refine j_if_ne (tgt := 19) (D_Model_aLine 5 rfl) rfl (w1) (fun c1 => ?_) (fun c1 => ?_)
  · replace h := ite_f h c1
    refine j_aloadn (k := 0) (D_Model_aLine 10 rfl) rfl rfl ?_
    refine j_getI rfl fa_Model_381 kd_81 lc_81 (by decide) rfl (D_Model_aLine 11 rfl) ?_
    refine j_bipush (v := 30) (D_Model_aLine 12 rfl) rfl ?_
    refine j_ic_ne (tgt := 34) (D_Model_aLine 13 rfl) rfl (wr_gi _ _ _) (wr_lit rfl) (fun c2 => ?_) (fun c2 => ?_)
    · replace h := ite_f h c2
      refine j_aloadn (k := 0) (D_Model_aLine 18 rfl) rfl rfl ?_
      refine j_getR rfl fa_Model_103 kd_81 lc_81 (by decide) rfl fx_81_35 (by decide) (D_Model_aLine 19 rfl) ?_
      refine j_aloadn (k := 0) (D_Model_aLine 20 rfl) rfl rfl ?_
      refine j_getI rfl fa_Model_381 kd_81 lc_81 (by decide) rfl (D_Model_aLine 21 rfl) ?_
      refine j_aloadn (k := 0) (D_Model_aLine 22 rfl) rfl rfl ?_
      refine j_getI rfl fa_Model_314 kd_81 lc_81 (by decide) rfl (D_Model_aLine 23 rfl) ?_
      have g1 := gd_c h
      replace h := gd_s h
      refine j_iast (NI := 30) (D_Model_aLine 24 rfl) kd_113 lc_113 (wr_gi _ _ _) rfl g1.1 g1.2 ?_
      refine j_gen (fun G1 e2 => ?_)
      replace h := wG_at h e2
      refine j_aloadn (k := 0) (D_Model_aLine 25 rfl) rfl rfl ?_
      refine j_getR rfl fa_Model_106 kd_81 lc_81 (by decide) rfl fx_81_36 (by decide) (D_Model_aLine 26 rfl) ?_
      refine j_aloadn (k := 0) (D_Model_aLine 27 rfl) rfl rfl ?_
      refine j_getI rfl fa_Model_381 kd_81 lc_81 (by decide) rfl (D_Model_aLine 28 rfl) ?_
      refine j_aloadn (k := 0) (D_Model_aLine 29 rfl) rfl rfl ?_
      refine j_getI rfl fa_Model_350 kd_81 lc_81 (by decide) rfl (D_Model_aLine 30 rfl) ?_
      have g2 := gd_c h
      replace h := gd_s h
      refine j_iast (NI := 31) (D_Model_aLine 31 rfl) kd_114 lc_114 (wr_gi _ _ _) rfl g2.1 g2.2 ?_
      refine j_gen (fun G2 e3 => ?_)
      replace h := wG_at h e3
      refine j_aloadn (k := 0) (D_Model_aLine 32 rfl) rfl rfl ?_
      refine j_getR rfl fa_Model_109 kd_81 lc_81 (by decide) rfl fx_81_37 (by decide) (D_Model_aLine 33 rfl) ?_
      refine j_aloadn (k := 0) (D_Model_aLine 34 rfl) rfl rfl ?_
      refine j_getI rfl fa_Model_381 kd_81 lc_81 (by decide) rfl (D_Model_aLine 35 rfl) ?_
      refine j_aloadn (k := 0) (D_Model_aLine 36 rfl) rfl rfl ?_
      refine j_getI rfl fa_Model_350 kd_81 lc_81 (by decide) rfl (D_Model_aLine 37 rfl) ?_
      have g3 := gd_c h
      replace h := gd_s h
      refine j_iast (NI := 30) (D_Model_aLine 38 rfl) kd_115 lc_115 (wr_gi _ _ _) rfl g3.1 g3.2 ?_
      refine j_gen (fun G3 e4 => ?_)
      replace h := wG_at h e4
      refine j_aloadn (k := 0) (D_Model_aLine 39 rfl) rfl rfl ?_
      refine j_iconst (v := 0) (D_Model_aLine 40 rfl) rfl ?_
      refine j_putI rfl fa_Model_353 kd_81 lc_81 (by decide) rfl (D_Model_aLine 41 rfl) ?_
      refine j_gen (fun G4 e5 => ?_)
      replace h := wG_at h e5
      refine j_aloadn (k := 0) (D_Model_aLine 42 rfl) rfl rfl ?_
      obtain ⟨q2, e6, h⟩ := Option.bind_eq_some_iff.mp h
      refine j_cVv (c_Model_next0 e6) rfl lk_Model_344 mok_Model_next0 kd_81 lc_81 rfl (by decide) rfl rfl (Nat.le_of_ble_eq_true rfl) (D_Model_aLine 43 rfl) ?_
      refine j_aloadn (k := 0) (D_Model_aLine 44 rfl) rfl rfl ?_
      refine j_aloadn (k := 0) (D_Model_aLine 45 rfl) rfl rfl ?_
      refine j_getR rfl fa_Model_103 kd_81 lc_81 (by decide) rfl fx_81_35 (by decide) (D_Model_aLine 46 rfl) ?_
      refine j_aloadn (k := 0) (D_Model_aLine 47 rfl) rfl rfl ?_
      refine j_getI rfl fa_Model_381 kd_81 lc_81 (by decide) rfl (D_Model_aLine 48 rfl) ?_
      have g4 := gd_c h
      replace h := gd_s h
      refine j_iald (NI := 30) (D_Model_aLine 49 rfl) kd_113 lc_113 (wr_gi _ _ _) rfl g4.1 g4.2 ?_
      obtain ⟨q3, e7, h⟩ := Option.bind_eq_some_iff.mp h
      refine j_cVz (c_Model_inner (wr_gi _ _ _) e7) rfl lk_Model_397 mok_Model_inner kd_81 lc_81 rfl (by decide) rfl rfl (Nat.le_of_ble_eq_true rfl) (D_Model_aLine 50 rfl) (fun w2 bw2 => ?_)
      refine j_if_ne (tgt := 100) (D_Model_aLine 51 rfl) rfl (w2) (fun c3 => ?_) (fun c3 => ?_)
      · replace h := ite_f h c3
        refine j_aloadn (k := 0) (D_Model_aLine 54 rfl) rfl rfl ?_
        refine j_dup (D_Model_aLine 55 rfl) rfl ?_
        refine j_getI rfl fa_Model_381 kd_81 lc_81 (by decide) rfl (D_Model_aLine 56 rfl) ?_
        refine j_iconst (v := 1) (D_Model_aLine 57 rfl) rfl ?_
        refine j_iadd (D_Model_aLine 58 rfl) ?_
        refine j_putI rfl fa_Model_381 kd_81 lc_81 (by decide) rfl (D_Model_aLine 59 rfl) ?_
        refine j_gen (fun G5 e8 => ?_)
        replace h := wG_at h e8
        refine j_aloadn (k := 0) (D_Model_aLine 60 rfl) rfl rfl ?_
        refine j_bipush (v := 59) (D_Model_aLine 61 rfl) rfl ?_
        obtain ⟨q4, e9, h⟩ := Option.bind_eq_some_iff.mp h
        refine j_cVz (c_Model_need (wr_lit rfl) e9) rfl lk_Model_373 mok_Model_need kd_81 lc_81 rfl (by decide) rfl rfl (Nat.le_of_ble_eq_true rfl) (D_Model_aLine 62 rfl) (fun w3 bw3 => ?_)
        exact j_zret (D_Model_aLine 63 rfl) rfl (w3) (nz_01 bw3) rfl rfl (leafZ h (wr_n (w3)) bw3)
      · replace h := ite_t h c3
        refine j_iconst (v := 0) (D_Model_aLine 52 rfl) rfl ?_
        exact j_zret (D_Model_aLine 53 rfl) rfl (wr_lit rfl) (nz_01 (by decide)) rfl rfl (leafZ h (wr_n (wr_lit rfl)) (by decide))
    · replace h := ite_t h c2
      refine j_aloadn (k := 0) (D_Model_aLine 14 rfl) rfl rfl ?_
      refine j_iconst (v := 3) (D_Model_aLine 15 rfl) rfl ?_
      obtain ⟨q5, e10, h⟩ := Option.bind_eq_some_iff.mp h
      refine j_cVz (c_Model_bad (wr_lit rfl) e10) rfl lk_Model_341 mok_Model_bad kd_81 lc_81 rfl (by decide) rfl rfl (Nat.le_of_ble_eq_true rfl) (D_Model_aLine 16 rfl) (fun w4 bw4 => ?_)
      exact j_zret (D_Model_aLine 17 rfl) rfl (w4) (nz_01 bw4) rfl rfl (leafZ h (wr_n (w4)) bw4)
  · replace h := ite_t h c1
    refine j_aloadn (k := 0) (D_Model_aLine 6 rfl) rfl rfl ?_
    refine j_iconst (v := 1) (D_Model_aLine 7 rfl) rfl ?_
    obtain ⟨q6, e11, h⟩ := Option.bind_eq_some_iff.mp h
    refine j_cVz (c_Model_bad (wr_lit rfl) e11) rfl lk_Model_341 mok_Model_bad kd_81 lc_81 rfl (by decide) rfl rfl (Nat.le_of_ble_eq_true rfl) (D_Model_aLine 8 rfl) (fun w5 bw5 => ?_)
    exact j_zret (D_Model_aLine 9 rfl) rfl (w5) (nz_01 bw5) rfl rfl (leafZ h (wr_n (w5)) bw5)
abbrev M_Model_ends : MI := (⟨"InquestHallModel", "ends", "(Z)Z"⟩, prog_14_method_48_code, 2, (some .boolean))
theorem cw_Model_ends : Cond.code M_Model_ends.1 M_Model_ends.2.1 M_Model_ends.2.2.1 M_Model_ends.2.2.2 ∈ TS := mTS (List.mem_of_getElem? (i := 1774) (by decide +kernel)) (by decide +kernel)
theorem fa_Model_400 : FA "InquestHallModel" 400 12 50 false .int := ⟨_, _, _, _, ok_Model, by decide, mTS (List.mem_of_getElem? (i := 1351) (by decide +kernel)) (by decide +kernel), rfl, rfl⟩
theorem fa_Model_121 : FA "InquestHallModel" 121 12 52 false .int := ⟨_, _, _, _, ok_Model, by decide, mTS (List.mem_of_getElem? (i := 1353) (by decide +kernel)) (by decide +kernel), rfl, rfl⟩
def tb_Model_ends : List (Nat × Instr × Nat) := [(0, .aload_n 0, 1), (1, .iconst 0, 1), (2, .putfield 226, 3), (5, .aload_n 0, 1), (6, .aload_n 0, 1), (7, .getfield 335, 3), (10, .putfield 400, 3), (13, .aload_n 0, 1), (14, .iload_n 1, 1), (15, .ifCond .eq 7, 3), (18, .iconst (-1), 1), (19, .goto 7, 3), (22, .aload_n 0, 1), (23, .getfield 338, 3), (26, .putfield 121, 3), (29, .iload_n 1, 1), (30, .ireturn, 1)]
theorem D_Model_ends (i : Nat) {pc len : Nat} {ins : Instr} (hi : tb_Model_ends[i]? = some (pc, ins, len)) : decode M_Model_ends.2.1 pc = .ok (ins, len) := dec_of (by decide +kernel) i hi
def f_Model_ends_L26 (G : GS) (x1 : Int) (s0 : Int) : Option (Int × GS) :=
  wG (si G 81 52 s0) fun G1 =>
  gd (x1 = 0 ∨ x1 = 1) <|
  some (x1, G1)
theorem s_Model_ends_L26 {X : XT} {r : Int × GS} : ∀ {G : GS} {x1 : Int} {s0 : Int}, wr x1 = x1 → wr s0 = s0 → f_Model_ends_L26 G x1 s0 = some r → J X true 6 0 0 M_Model_ends (Rz r.1 r.2) NC 0 0 26 [(0, rf X 81), (1, vi x1)] [vi s0, rf X 81] G := by
  intro G x1 s0 hx1 hs0 h
  unfold f_Model_ends_L26 at h
  refine j_putI rfl fa_Model_121 kd_81 lc_81 (by decide) rfl (D_Model_ends 14 rfl) ?_
  refine j_gen (fun G1 e1 => ?_)
  replace h := wG_at h e1
  refine j_iloadn (k := 1) (D_Model_ends 15 rfl) rfl rfl ?_
  have g1 := gd_c h
  replace h := gd_s h
  exact j_zret (D_Model_ends 16 rfl) rfl (hx1) (nz_01 g1) rfl rfl (leafZ h (wr_n (hx1)) g1)
def f_Model_ends (G : GS) (a1 : Int) : Option (Int × GS) :=
  wG (si G 81 43 0) fun G1 =>
  wG (si G1 81 50 (gi G1 81 48)) fun G2 =>
  if a1 = 0 then
    f_Model_ends_L26 G2 a1 (gi G2 81 49)
  else
    f_Model_ends_L26 G2 a1 (-1)
theorem c_Model_ends {X : XT} {G : GS} {a1 : Int} {r : Int × GS} (ha1 : wr a1 = a1) (h : f_Model_ends G a1 = some r) : Call X true 6 0 0 M_Model_ends [rf X 81, vi a1] NC G (Rz r.1 r.2) := by
  refine Call_of_J cw_Model_ends (by decide +kernel) (Nat.le_of_ble_eq_true rfl) ?_
  unfold f_Model_ends at h
  show J X true 6 0 0 M_Model_ends (Rz r.1 r.2) NC 0 0 0 [(0, rf X 81), (1, vi a1)] [] G
  refine j_aloadn (k := 0) (D_Model_ends 0 rfl) rfl rfl ?_
  refine j_iconst (v := 0) (D_Model_ends 1 rfl) rfl ?_
  refine j_putI rfl fa_Model_226 kd_81 lc_81 (by decide) rfl (D_Model_ends 2 rfl) ?_
  refine j_gen (fun G1 e1 => ?_)
  replace h := wG_at h e1
  refine j_aloadn (k := 0) (D_Model_ends 3 rfl) rfl rfl ?_
  refine j_aloadn (k := 0) (D_Model_ends 4 rfl) rfl rfl ?_
  refine j_getI rfl fa_Model_335 kd_81 lc_81 (by decide) rfl (D_Model_ends 5 rfl) ?_
  refine j_putI rfl fa_Model_400 kd_81 lc_81 (by decide) rfl (D_Model_ends 6 rfl) ?_
  refine j_gen (fun G2 e2 => ?_)
  replace h := wG_at h e2
  refine j_aloadn (k := 0) (D_Model_ends 7 rfl) rfl rfl ?_
  refine j_iloadn (k := 1) (D_Model_ends 8 rfl) rfl rfl ?_
  refine j_if_eq (tgt := 22) (D_Model_ends 9 rfl) rfl (ha1) (fun c1 => ?_) (fun c1 => ?_)
  · replace h := ite_t h c1
    refine j_aloadn (k := 0) (D_Model_ends 12 rfl) rfl rfl ?_
    refine j_getI rfl fa_Model_338 kd_81 lc_81 (by decide) rfl (D_Model_ends 13 rfl) ?_
    refine j_loc [0, 1] rfl ?_
    exact s_Model_ends_L26 (ha1) (wr_gi _ _ _) h
  · replace h := ite_f h c1
    refine j_iconst (v := (-1)) (D_Model_ends 10 rfl) rfl ?_
    refine j_goto (tgt := 26) (D_Model_ends 11 rfl) rfl ?_
    refine j_loc [0, 1] rfl ?_
    exact s_Model_ends_L26 (ha1) (wr_lit rfl) h
abbrev M_Model_clears : MI := (⟨"InquestHallModel", "clears", "(I)V"⟩, prog_14_method_22_code, 3, none)
theorem cw_Model_clears : Cond.code M_Model_clears.1 M_Model_clears.2.1 M_Model_clears.2.2.1 M_Model_clears.2.2.2 ∈ TS := mTS (List.mem_of_getElem? (i := 1300) (by decide +kernel)) (by decide +kernel)
theorem fa_Model_52 : FA "InquestHallModel" 52 12 18 true (.array .int) := ⟨_, _, _, _, ok_Model, by decide, mTS (List.mem_of_getElem? (i := 1319) (by decide +kernel)) (by decide +kernel), rfl, rfl⟩
theorem fx_81_18 {G : GS} (w : WF true NC G) : G.2.2 81 18 = 96 := w.2 rfl (81, 18, 96) (by decide)
theorem kd_96 : kd 96 = (0, 4) := rfl
theorem lc_96 : 96 < NC := by decide
theorem fa_Model_55 : FA "InquestHallModel" 55 12 19 true (.array .int) := ⟨_, _, _, _, ok_Model, by decide, mTS (List.mem_of_getElem? (i := 1320) (by decide +kernel)) (by decide +kernel), rfl, rfl⟩
theorem fx_81_19 {G : GS} (w : WF true NC G) : G.2.2 81 19 = 97 := w.2 rfl (81, 19, 97) (by decide)
theorem kd_97 : kd 97 = (0, 4) := rfl
theorem lc_97 : 97 < NC := by decide
theorem fa_Model_58 : FA "InquestHallModel" 58 12 20 true (.array .int) := ⟨_, _, _, _, ok_Model, by decide, mTS (List.mem_of_getElem? (i := 1321) (by decide +kernel)) (by decide +kernel), rfl, rfl⟩
theorem fx_81_20 {G : GS} (w : WF true NC G) : G.2.2 81 20 = 98 := w.2 rfl (81, 20, 98) (by decide)
theorem kd_98 : kd 98 = (0, 4) := rfl
theorem lc_98 : 98 < NC := by decide
theorem fa_Model_61 : FA "InquestHallModel" 61 12 21 true (.array .int) := ⟨_, _, _, _, ok_Model, by decide, mTS (List.mem_of_getElem? (i := 1322) (by decide +kernel)) (by decide +kernel), rfl, rfl⟩
theorem fx_81_21 {G : GS} (w : WF true NC G) : G.2.2 81 21 = 99 := w.2 rfl (81, 21, 99) (by decide)
theorem kd_99 : kd 99 = (0, 4) := rfl
theorem lc_99 : 99 < NC := by decide
theorem fa_Model_76 : FA "InquestHallModel" 76 12 26 true (.array .int) := ⟨_, _, _, _, ok_Model, by decide, mTS (List.mem_of_getElem? (i := 1327) (by decide +kernel)) (by decide +kernel), rfl, rfl⟩
theorem fx_81_26 {G : GS} (w : WF true NC G) : G.2.2 81 26 = 104 := w.2 rfl (81, 26, 104) (by decide)
theorem kd_104 : kd 104 = (0, 4) := rfl
theorem lc_104 : 104 < NC := by decide
theorem fa_Model_64 : FA "InquestHallModel" 64 12 22 true (.array .int) := ⟨_, _, _, _, ok_Model, by decide, mTS (List.mem_of_getElem? (i := 1323) (by decide +kernel)) (by decide +kernel), rfl, rfl⟩
theorem fx_81_22 {G : GS} (w : WF true NC G) : G.2.2 81 22 = 100 := w.2 rfl (81, 22, 100) (by decide)
theorem kd_100 : kd 100 = (0, 16) := rfl
theorem lc_100 : 100 < NC := by decide
theorem fa_Model_67 : FA "InquestHallModel" 67 12 23 true (.array .int) := ⟨_, _, _, _, ok_Model, by decide, mTS (List.mem_of_getElem? (i := 1324) (by decide +kernel)) (by decide +kernel), rfl, rfl⟩
theorem fx_81_23 {G : GS} (w : WF true NC G) : G.2.2 81 23 = 101 := w.2 rfl (81, 23, 101) (by decide)
theorem kd_101 : kd 101 = (0, 12) := rfl
theorem lc_101 : 101 < NC := by decide
theorem fa_Model_70 : FA "InquestHallModel" 70 12 24 true (.array .int) := ⟨_, _, _, _, ok_Model, by decide, mTS (List.mem_of_getElem? (i := 1325) (by decide +kernel)) (by decide +kernel), rfl, rfl⟩
theorem fx_81_24 {G : GS} (w : WF true NC G) : G.2.2 81 24 = 102 := w.2 rfl (81, 24, 102) (by decide)
theorem kd_102 : kd 102 = (0, 12) := rfl
theorem lc_102 : 102 < NC := by decide
theorem fa_Model_73 : FA "InquestHallModel" 73 12 25 true (.array .int) := ⟨_, _, _, _, ok_Model, by decide, mTS (List.mem_of_getElem? (i := 1326) (by decide +kernel)) (by decide +kernel), rfl, rfl⟩
theorem fx_81_25 {G : GS} (w : WF true NC G) : G.2.2 81 25 = 103 := w.2 rfl (81, 25, 103) (by decide)
theorem kd_103 : kd 103 = (0, 12) := rfl
theorem lc_103 : 103 < NC := by decide
def tb_Model_clears : List (Nat × Instr × Nat) := [(0, .aload_n 0, 1), (1, .getfield 52, 3), (4, .iload_n 1, 1), (5, .iconst 1, 1), (6, .iastore, 1), (7, .aload_n 0, 1), (8, .getfield 55, 3), (11, .iload_n 1, 1), (12, .iconst 3, 1), (13, .iastore, 1), (14, .aload_n 0, 1), (15, .getfield 58, 3), (18, .iload_n 1, 1), (19, .sipush 9999, 3), (22, .iastore, 1), (23, .aload_n 0, 1), (24, .getfield 61, 3), (27, .iload_n 1, 1), (28, .sipush 9999, 3), (31, .iastore, 1), (32, .aload_n 0, 1), (33, .getfield 76, 3), (36, .iload_n 1, 1), (37, .iconst 0, 1), (38, .iastore, 1), (39, .iconst 0, 1), (40, .istore_n 2, 1), (41, .iload_n 2, 1), (42, .iconst 4, 1), (43, .if_icmp .ge 20, 3), (46, .aload_n 0, 1), (47, .getfield 64, 3), (50, .iconst 4, 1), (51, .iload_n 1, 1), (52, .imul, 1), (53, .iload_n 2, 1), (54, .iadd, 1), (55, .iconst 0, 1), (56, .iastore, 1), (57, .iinc 2 1, 3), (60, .goto (-19), 3), (63, .iconst 0, 1), (64, .istore_n 2, 1), (65, .iload_n 2, 1), (66, .iconst 3, 1), (67, .if_icmp .ge 42, 3), (70, .aload_n 0, 1), (71, .getfield 67, 3), (74, .iconst 3, 1), (75, .iload_n 1, 1), (76, .imul, 1), (77, .iload_n 2, 1), (78, .iadd, 1), (79, .iconst 0, 1), (80, .iastore, 1), (81, .aload_n 0, 1), (82, .getfield 70, 3), (85, .iconst 3, 1), (86, .iload_n 1, 1), (87, .imul, 1), (88, .iload_n 2, 1), (89, .iadd, 1), (90, .iconst 0, 1), (91, .iastore, 1), (92, .aload_n 0, 1), (93, .getfield 73, 3), (96, .iconst 3, 1), (97, .iload_n 1, 1), (98, .imul, 1), (99, .iload_n 2, 1), (100, .iadd, 1), (101, .iconst 0, 1), (102, .iastore, 1), (103, .iinc 2 1, 3), (106, .goto (-41), 3), (109, .return_, 1)]
theorem D_Model_clears (i : Nat) {pc len : Nat} {ins : Instr} (hi : tb_Model_clears[i]? = some (pc, ins, len)) : decode M_Model_clears.2.1 pc = .ok (ins, len) := dec_of (by decide +kernel) i hi
def f_Model_clears_L65 : Nat → GS → Int → Int → Option (GS)
  | 0, _, _, _ => none
  | n + 1, G, x1, x2 =>
    if 3 ≤ x2 then
      some G
    else
      gd (0 ≤ wr ((3 * x1) + x2) ∧ wr ((3 * x1) + x2) < 12) <|
      wG (si G 101 (wr ((3 * x1) + x2)).toNat 0) fun G1 =>
      gd (0 ≤ wr ((3 * x1) + x2) ∧ wr ((3 * x1) + x2) < 12) <|
      wG (si G1 102 (wr ((3 * x1) + x2)).toNat 0) fun G2 =>
      gd (0 ≤ wr ((3 * x1) + x2) ∧ wr ((3 * x1) + x2) < 12) <|
      wG (si G2 103 (wr ((3 * x1) + x2)).toNat 0) fun G3 =>
      f_Model_clears_L65 n G3 x1 (wr (x2 + 1))
theorem s_Model_clears_L65 {X : XT} {r : GS} : ∀ (n : Nat) {G : GS} {x1 : Int} {x2 : Int}, wr x1 = x1 → wr x2 = x2 → f_Model_clears_L65 n G x1 x2 = some r → J X true 6 0 0 M_Model_clears (Rv r) NC 0 0 65 [(0, rf X 81), (1, vi x1), (2, vi x2)] [] G := by
  intro n
  induction n with
  | zero =>
    intro G x1 x2 hx1 hx2 h
    exact none_some h
  | succ n ih =>
    intro G x1 x2 hx1 hx2 h
    rw [f_Model_clears_L65] at h
    refine j_iloadn (k := 2) (D_Model_clears 43 rfl) rfl rfl ?_
    refine j_iconst (v := 3) (D_Model_clears 44 rfl) rfl ?_
    refine j_ic_ge (tgt := 109) (D_Model_clears 45 rfl) rfl (hx2) (wr_lit rfl) (fun c1 => ?_) (fun c1 => ?_)
    · replace h := ite_t h c1
      exact j_vret (D_Model_clears 75 rfl) rfl rfl rfl (leafV h)
    · replace h := ite_f h c1
      refine j_aloadn (k := 0) (D_Model_clears 46 rfl) rfl rfl ?_
      refine j_getR rfl fa_Model_67 kd_81 lc_81 (by decide) rfl fx_81_23 (by decide) (D_Model_clears 47 rfl) ?_
      refine j_iconst (v := 3) (D_Model_clears 48 rfl) rfl ?_
      refine j_iloadn (k := 1) (D_Model_clears 49 rfl) rfl rfl ?_
      refine j_imul (D_Model_clears 50 rfl) ?_
      refine j_iloadn (k := 2) (D_Model_clears 51 rfl) rfl rfl ?_
      refine j_iadd (D_Model_clears 52 rfl) ?_
      refine j_iconst (v := 0) (D_Model_clears 53 rfl) rfl ?_
      have g1 := gd_c h
      replace h := gd_s h
      refine j_iast (NI := 12) (D_Model_clears 54 rfl) kd_101 lc_101 (rfl) rfl g1.1 g1.2 ?_
      refine j_gen (fun G1 e1 => ?_)
      replace h := wG_at h e1
      refine j_aloadn (k := 0) (D_Model_clears 55 rfl) rfl rfl ?_
      refine j_getR rfl fa_Model_70 kd_81 lc_81 (by decide) rfl fx_81_24 (by decide) (D_Model_clears 56 rfl) ?_
      refine j_iconst (v := 3) (D_Model_clears 57 rfl) rfl ?_
      refine j_iloadn (k := 1) (D_Model_clears 58 rfl) rfl rfl ?_
      refine j_imul (D_Model_clears 59 rfl) ?_
      refine j_iloadn (k := 2) (D_Model_clears 60 rfl) rfl rfl ?_
      refine j_iadd (D_Model_clears 61 rfl) ?_
      refine j_iconst (v := 0) (D_Model_clears 62 rfl) rfl ?_
      have g2 := gd_c h
      replace h := gd_s h
      refine j_iast (NI := 12) (D_Model_clears 63 rfl) kd_102 lc_102 (rfl) rfl g2.1 g2.2 ?_
      refine j_gen (fun G2 e2 => ?_)
      replace h := wG_at h e2
      refine j_aloadn (k := 0) (D_Model_clears 64 rfl) rfl rfl ?_
      refine j_getR rfl fa_Model_73 kd_81 lc_81 (by decide) rfl fx_81_25 (by decide) (D_Model_clears 65 rfl) ?_
      refine j_iconst (v := 3) (D_Model_clears 66 rfl) rfl ?_
      refine j_iloadn (k := 1) (D_Model_clears 67 rfl) rfl rfl ?_
      refine j_imul (D_Model_clears 68 rfl) ?_
      refine j_iloadn (k := 2) (D_Model_clears 69 rfl) rfl rfl ?_
      refine j_iadd (D_Model_clears 70 rfl) ?_
      refine j_iconst (v := 0) (D_Model_clears 71 rfl) rfl ?_
      have g3 := gd_c h
      replace h := gd_s h
      refine j_iast (NI := 12) (D_Model_clears 72 rfl) kd_103 lc_103 (rfl) rfl g3.1 g3.2 ?_
      refine j_gen (fun G3 e3 => ?_)
      replace h := wG_at h e3
      refine j_iinc (k := 2) (L' := [(2, vi (wr (x2 + 1))), (0, rf X 81), (1, vi x1)]) (D_Model_clears 73 rfl) rfl rfl (by decide) rfl ?_
      refine j_goto (tgt := 65) (D_Model_clears 74 rfl) rfl ?_
      refine j_loc [1, 2, 0] rfl ?_
      exact ih (hx1) (wr_wr _) h
def f_Model_clears_L41 : Nat → GS → Int → Int → Option (GS)
  | 0, _, _, _ => none
  | n + 1, G, x1, x2 =>
    if 4 ≤ x2 then
      f_Model_clears_L65 FU G x1 0
    else
      gd (0 ≤ wr ((4 * x1) + x2) ∧ wr ((4 * x1) + x2) < 16) <|
      wG (si G 100 (wr ((4 * x1) + x2)).toNat 0) fun G1 =>
      f_Model_clears_L41 n G1 x1 (wr (x2 + 1))
theorem s_Model_clears_L41 {X : XT} {r : GS} : ∀ (n : Nat) {G : GS} {x1 : Int} {x2 : Int}, wr x1 = x1 → wr x2 = x2 → f_Model_clears_L41 n G x1 x2 = some r → J X true 6 0 0 M_Model_clears (Rv r) NC 0 0 41 [(0, rf X 81), (1, vi x1), (2, vi x2)] [] G := by
  intro n
  induction n with
  | zero =>
    intro G x1 x2 hx1 hx2 h
    exact none_some h
  | succ n ih =>
    intro G x1 x2 hx1 hx2 h
    rw [f_Model_clears_L41] at h
    refine j_iloadn (k := 2) (D_Model_clears 27 rfl) rfl rfl ?_
    refine j_iconst (v := 4) (D_Model_clears 28 rfl) rfl ?_
    refine j_ic_ge (tgt := 63) (D_Model_clears 29 rfl) rfl (hx2) (wr_lit rfl) (fun c1 => ?_) (fun c1 => ?_)
    · replace h := ite_t h c1
      refine j_iconst (v := 0) (D_Model_clears 41 rfl) rfl ?_
      refine j_istoren (L' := [(2, vi 0), (0, rf X 81), (1, vi x1)]) (D_Model_clears 42 rfl) rfl (wr_lit rfl) (by decide) rfl ?_
      refine j_loc [1, 2, 0] rfl ?_
      exact s_Model_clears_L65 FU (hx1) (wr_lit rfl) h
    · replace h := ite_f h c1
      refine j_aloadn (k := 0) (D_Model_clears 30 rfl) rfl rfl ?_
      refine j_getR rfl fa_Model_64 kd_81 lc_81 (by decide) rfl fx_81_22 (by decide) (D_Model_clears 31 rfl) ?_
      refine j_iconst (v := 4) (D_Model_clears 32 rfl) rfl ?_
      refine j_iloadn (k := 1) (D_Model_clears 33 rfl) rfl rfl ?_
      refine j_imul (D_Model_clears 34 rfl) ?_
      refine j_iloadn (k := 2) (D_Model_clears 35 rfl) rfl rfl ?_
      refine j_iadd (D_Model_clears 36 rfl) ?_
      refine j_iconst (v := 0) (D_Model_clears 37 rfl) rfl ?_
      have g1 := gd_c h
      replace h := gd_s h
      refine j_iast (NI := 16) (D_Model_clears 38 rfl) kd_100 lc_100 (rfl) rfl g1.1 g1.2 ?_
      refine j_gen (fun G1 e1 => ?_)
      replace h := wG_at h e1
      refine j_iinc (k := 2) (L' := [(2, vi (wr (x2 + 1))), (0, rf X 81), (1, vi x1)]) (D_Model_clears 39 rfl) rfl rfl (by decide) rfl ?_
      refine j_goto (tgt := 41) (D_Model_clears 40 rfl) rfl ?_
      refine j_loc [1, 2, 0] rfl ?_
      exact ih (hx1) (wr_wr _) h
def f_Model_clears (G : GS) (a1 : Int) : Option (GS) :=
  gd (0 ≤ a1 ∧ a1 < 4) <|
  wG (si G 96 a1.toNat 1) fun G1 =>
  gd (0 ≤ a1 ∧ a1 < 4) <|
  wG (si G1 97 a1.toNat 3) fun G2 =>
  gd (0 ≤ a1 ∧ a1 < 4) <|
  wG (si G2 98 a1.toNat 9999) fun G3 =>
  gd (0 ≤ a1 ∧ a1 < 4) <|
  wG (si G3 99 a1.toNat 9999) fun G4 =>
  gd (0 ≤ a1 ∧ a1 < 4) <|
  wG (si G4 104 a1.toNat 0) fun G5 =>
  f_Model_clears_L41 FU G5 a1 0
theorem c_Model_clears {X : XT} {G : GS} {a1 : Int} {r : GS} (ha1 : wr a1 = a1) (h : f_Model_clears G a1 = some r) : Call X true 6 0 0 M_Model_clears [rf X 81, vi a1] NC G (Rv r) := by
  refine Call_of_J cw_Model_clears (by decide +kernel) (Nat.le_of_ble_eq_true rfl) ?_
  unfold f_Model_clears at h
  show J X true 6 0 0 M_Model_clears (Rv r) NC 0 0 0 [(0, rf X 81), (1, vi a1)] [] G
  refine j_aloadn (k := 0) (D_Model_clears 0 rfl) rfl rfl ?_
  refine j_getR rfl fa_Model_52 kd_81 lc_81 (by decide) rfl fx_81_18 (by decide) (D_Model_clears 1 rfl) ?_
  refine j_iloadn (k := 1) (D_Model_clears 2 rfl) rfl rfl ?_
  refine j_iconst (v := 1) (D_Model_clears 3 rfl) rfl ?_
  have g1 := gd_c h
  replace h := gd_s h
  refine j_iast (NI := 4) (D_Model_clears 4 rfl) kd_96 lc_96 (ha1) rfl g1.1 g1.2 ?_
  refine j_gen (fun G1 e1 => ?_)
  replace h := wG_at h e1
  refine j_aloadn (k := 0) (D_Model_clears 5 rfl) rfl rfl ?_
  refine j_getR rfl fa_Model_55 kd_81 lc_81 (by decide) rfl fx_81_19 (by decide) (D_Model_clears 6 rfl) ?_
  refine j_iloadn (k := 1) (D_Model_clears 7 rfl) rfl rfl ?_
  refine j_iconst (v := 3) (D_Model_clears 8 rfl) rfl ?_
  have g2 := gd_c h
  replace h := gd_s h
  refine j_iast (NI := 4) (D_Model_clears 9 rfl) kd_97 lc_97 (ha1) rfl g2.1 g2.2 ?_
  refine j_gen (fun G2 e2 => ?_)
  replace h := wG_at h e2
  refine j_aloadn (k := 0) (D_Model_clears 10 rfl) rfl rfl ?_
  refine j_getR rfl fa_Model_58 kd_81 lc_81 (by decide) rfl fx_81_20 (by decide) (D_Model_clears 11 rfl) ?_
  refine j_iloadn (k := 1) (D_Model_clears 12 rfl) rfl rfl ?_
  refine j_sipush (v := 9999) (D_Model_clears 13 rfl) rfl ?_
  have g3 := gd_c h
  replace h := gd_s h
  refine j_iast (NI := 4) (D_Model_clears 14 rfl) kd_98 lc_98 (ha1) rfl g3.1 g3.2 ?_
  refine j_gen (fun G3 e3 => ?_)
  replace h := wG_at h e3
  refine j_aloadn (k := 0) (D_Model_clears 15 rfl) rfl rfl ?_
  refine j_getR rfl fa_Model_61 kd_81 lc_81 (by decide) rfl fx_81_21 (by decide) (D_Model_clears 16 rfl) ?_
  refine j_iloadn (k := 1) (D_Model_clears 17 rfl) rfl rfl ?_
  refine j_sipush (v := 9999) (D_Model_clears 18 rfl) rfl ?_
  have g4 := gd_c h
  replace h := gd_s h
  refine j_iast (NI := 4) (D_Model_clears 19 rfl) kd_99 lc_99 (ha1) rfl g4.1 g4.2 ?_
  refine j_gen (fun G4 e4 => ?_)
  replace h := wG_at h e4
  refine j_aloadn (k := 0) (D_Model_clears 20 rfl) rfl rfl ?_
  refine j_getR rfl fa_Model_76 kd_81 lc_81 (by decide) rfl fx_81_26 (by decide) (D_Model_clears 21 rfl) ?_
  refine j_iloadn (k := 1) (D_Model_clears 22 rfl) rfl rfl ?_
  refine j_iconst (v := 0) (D_Model_clears 23 rfl) rfl ?_
  have g5 := gd_c h
  replace h := gd_s h
  refine j_iast (NI := 4) (D_Model_clears 24 rfl) kd_104 lc_104 (ha1) rfl g5.1 g5.2 ?_
  refine j_gen (fun G5 e5 => ?_)
  replace h := wG_at h e5
  refine j_iconst (v := 0) (D_Model_clears 25 rfl) rfl ?_
  refine j_istoren (L' := [(2, vi 0), (0, rf X 81), (1, vi a1)]) (D_Model_clears 26 rfl) rfl (wr_lit rfl) (by decide) rfl ?_
  refine j_loc [1, 2, 0] rfl ?_
  exact s_Model_clears_L41 FU (ha1) (wr_lit rfl) h
abbrev M_Model_tells : MI := (⟨"InquestHallModel", "tells", "(II)V"⟩, prog_14_method_50_code, 4, none)
theorem cw_Model_tells : Cond.code M_Model_tells.1 M_Model_tells.2.1 M_Model_tells.2.2.1 M_Model_tells.2.2.2 ∈ TS := mTS (List.mem_of_getElem? (i := 1778) (by decide +kernel)) (by decide +kernel)
theorem fa_Model_79 : FA "InquestHallModel" 79 12 27 true (.array .int) := ⟨_, _, _, _, ok_Model, by decide, mTS (List.mem_of_getElem? (i := 1328) (by decide +kernel)) (by decide +kernel), rfl, rfl⟩
theorem fx_81_27 {G : GS} (w : WF true NC G) : G.2.2 81 27 = 105 := w.2 rfl (81, 27, 105) (by decide)
theorem kd_105 : kd 105 = (0, 120) := rfl
theorem lc_105 : 105 < NC := by decide
theorem fa_Model_82 : FA "InquestHallModel" 82 12 28 true (.array .int) := ⟨_, _, _, _, ok_Model, by decide, mTS (List.mem_of_getElem? (i := 1329) (by decide +kernel)) (by decide +kernel), rfl, rfl⟩
theorem fx_81_28 {G : GS} (w : WF true NC G) : G.2.2 81 28 = 106 := w.2 rfl (81, 28, 106) (by decide)
theorem kd_106 : kd 106 = (0, 124) := rfl
theorem lc_106 : 106 < NC := by decide
theorem fa_Model_85 : FA "InquestHallModel" 85 12 29 true (.array .int) := ⟨_, _, _, _, ok_Model, by decide, mTS (List.mem_of_getElem? (i := 1330) (by decide +kernel)) (by decide +kernel), rfl, rfl⟩
theorem fx_81_29 {G : GS} (w : WF true NC G) : G.2.2 81 29 = 107 := w.2 rfl (81, 29, 107) (by decide)
theorem kd_107 : kd 107 = (0, 120) := rfl
theorem lc_107 : 107 < NC := by decide
def tb_Model_tells : List (Nat × Instr × Nat) := [(0, .aload_n 0, 1), (1, .getfield 79, 3), (4, .bipush 30, 2), (6, .iload_n 1, 1), (7, .imul, 1), (8, .iload_n 2, 1), (9, .iadd, 1), (10, .aload_n 0, 1), (11, .getfield 103, 3), (14, .iload_n 2, 1), (15, .iaload, 1), (16, .iastore, 1), (17, .aload_n 0, 1), (18, .getfield 82, 3), (21, .bipush 31, 2), (23, .iload_n 1, 1), (24, .imul, 1), (25, .iload_n 2, 1), (26, .iadd, 1), (27, .aload_n 0, 1), (28, .getfield 106, 3), (31, .iload_n 2, 1), (32, .iaload, 1), (33, .iastore, 1), (34, .aload_n 0, 1), (35, .getfield 85, 3), (38, .bipush 30, 2), (40, .iload_n 1, 1), (41, .imul, 1), (42, .iload_n 2, 1), (43, .iadd, 1), (44, .aload_n 0, 1), (45, .getfield 109, 3), (48, .iload_n 2, 1), (49, .iaload, 1), (50, .iastore, 1), (51, .aload_n 0, 1), (52, .getfield 103, 3), (55, .iload_n 2, 1), (56, .iaload, 1), (57, .tableswitch 210 3 7 #[35, 87, 153, 180, 195], 35), (92, .iconst 0, 1), (93, .istore_n 3, 1), (94, .iload_n 3, 1), (95, .iconst 4, 1), (96, .if_icmp .ge 45, 3), (99, .aload_n 0, 1), (100, .getfield 94, 3), (103, .iload_n 2, 1), (104, .iaload, 1), (105, .iconst (-1), 1), (106, .if_icmp .eq 13, 3), (109, .aload_n 0, 1), (110, .getfield 94, 3), (113, .iload_n 2, 1), (114, .iaload, 1), (115, .iload_n 3, 1), (116, .if_icmp .ne 19, 3), (119, .aload_n 0, 1), (120, .getfield 64, 3), (123, .iconst 4, 1), (124, .iload_n 1, 1), (125, .imul, 1), (126, .iload_n 3, 1), (127, .iadd, 1), (128, .aload_n 0, 1), (129, .getfield 91, 3), (132, .iload_n 2, 1), (133, .iaload, 1), (134, .iastore, 1), (135, .iinc 3 1, 3), (138, .goto (-44), 3), (141, .goto 126, 3), (144, .aload_n 0, 1), (145, .getfield 67, 3), (148, .iconst 3, 1), (149, .iload_n 1, 1), (150, .imul, 1), (151, .aload_n 0, 1), (152, .getfield 91, 3), (155, .iload_n 2, 1), (156, .iaload, 1), (157, .iadd, 1), (158, .aload_n 0, 1), (159, .getfield 94, 3), (162, .iload_n 2, 1), (163, .iaload, 1), (164, .iastore, 1), (165, .aload_n 0, 1), (166, .getfield 70, 3), (169, .iconst 3, 1), (170, .iload_n 1, 1), (171, .imul, 1), (172, .aload_n 0, 1), (173, .getfield 91, 3), (176, .iload_n 2, 1), (177, .iaload, 1), (178, .iadd, 1), (179, .aload_n 0, 1), (180, .getfield 97, 3), (183, .iload_n 2, 1), (184, .iaload, 1), (185, .iastore, 1), (186, .aload_n 0, 1), (187, .getfield 73, 3), (190, .iconst 3, 1), (191, .iload_n 1, 1), (192, .imul, 1), (193, .aload_n 0, 1), (194, .getfield 91, 3), (197, .iload_n 2, 1), (198, .iaload, 1), (199, .iadd, 1), (200, .aload_n 0, 1), (201, .getfield 100, 3), (204, .iload_n 2, 1), (205, .iaload, 1), (206, .iastore, 1), (207, .goto 60, 3), (210, .aload_n 0, 1), (211, .getfield 52, 3), (214, .iload_n 1, 1), (215, .aload_n 0, 1), (216, .getfield 91, 3), (219, .iload_n 2, 1), (220, .iaload, 1), (221, .iastore, 1), (222, .aload_n 0, 1), (223, .getfield 55, 3), (226, .iload_n 1, 1), (227, .aload_n 0, 1), (228, .getfield 94, 3), (231, .iload_n 2, 1), (232, .iaload, 1), (233, .iastore, 1), (234, .goto 33, 3), (237, .aload_n 0, 1), (238, .getfield 58, 3), (241, .iload_n 1, 1), (242, .aload_n 0, 1), (243, .getfield 91, 3), (246, .iload_n 2, 1), (247, .iaload, 1), (248, .iastore, 1), (249, .goto 18, 3), (252, .aload_n 0, 1), (253, .getfield 61, 3), (256, .iload_n 1, 1), (257, .aload_n 0, 1), (258, .getfield 91, 3), (261, .iload_n 2, 1), (262, .iaload, 1), (263, .iastore, 1), (264, .goto 3, 3), (267, .return_, 1)]
theorem D_Model_tells (i : Nat) {pc len : Nat} {ins : Instr} (hi : tb_Model_tells[i]? = some (pc, ins, len)) : decode M_Model_tells.2.1 pc = .ok (ins, len) := dec_of (by decide +kernel) i hi
def f_Model_tells_L135 (k94 : GS → Int → Int → Int → Option (GS)) (G : GS) (x1 : Int) (x2 : Int) (x3 : Int) : Option (GS) :=
  k94 G x1 x2 (wr (x3 + 1))
theorem s_Model_tells_L135 {X : XT} {r : GS} {k94 : GS → Int → Int → Int → Option (GS)} (hk94 : ∀ {G : GS} {x1 : Int} {x2 : Int} {x3 : Int} , wr x1 = x1 → wr x2 = x2 → wr x3 = x3 → k94 G x1 x2 x3 = some r → J X true 6 0 0 M_Model_tells (Rv r) NC 0 0 94 [(0, rf X 81), (1, vi x1), (2, vi x2), (3, vi x3)] [] G) : ∀ {G : GS} {x1 : Int} {x2 : Int} {x3 : Int}, wr x1 = x1 → wr x2 = x2 → wr x3 = x3 → f_Model_tells_L135 k94 G x1 x2 x3 = some r → J X true 6 0 0 M_Model_tells (Rv r) NC 0 0 135 [(0, rf X 81), (1, vi x1), (2, vi x2), (3, vi x3)] [] G := by
  intro G x1 x2 x3 hx1 hx2 hx3 h
  unfold f_Model_tells_L135 at h
  refine j_iinc (k := 3) (L' := [(3, vi (wr (x3 + 1))), (0, rf X 81), (1, vi x1), (2, vi x2)]) (D_Model_tells 70 rfl) rfl rfl (by decide) rfl ?_
  refine j_goto (tgt := 94) (D_Model_tells 71 rfl) rfl ?_
  refine j_loc [1, 2, 3, 0] rfl ?_
  exact hk94 (hx1) (hx2) (wr_wr _) h
def f_Model_tells_L119 (k94 : GS → Int → Int → Int → Option (GS)) (G : GS) (x1 : Int) (x2 : Int) (x3 : Int) : Option (GS) :=
  gd (0 ≤ x2 ∧ x2 < 30) <|
  gd (0 ≤ wr ((4 * x1) + x3) ∧ wr ((4 * x1) + x3) < 16) <|
  wG (si G 100 (wr ((4 * x1) + x3)).toNat (gi G 109 x2.toNat)) fun G1 =>
  f_Model_tells_L135 k94 G1 x1 x2 x3
theorem s_Model_tells_L119 {X : XT} {r : GS} {k94 : GS → Int → Int → Int → Option (GS)} (hk94 : ∀ {G : GS} {x1 : Int} {x2 : Int} {x3 : Int} , wr x1 = x1 → wr x2 = x2 → wr x3 = x3 → k94 G x1 x2 x3 = some r → J X true 6 0 0 M_Model_tells (Rv r) NC 0 0 94 [(0, rf X 81), (1, vi x1), (2, vi x2), (3, vi x3)] [] G) : ∀ {G : GS} {x1 : Int} {x2 : Int} {x3 : Int}, wr x1 = x1 → wr x2 = x2 → wr x3 = x3 → f_Model_tells_L119 k94 G x1 x2 x3 = some r → J X true 6 0 0 M_Model_tells (Rv r) NC 0 0 119 [(0, rf X 81), (1, vi x1), (2, vi x2), (3, vi x3)] [] G := by
  intro G x1 x2 x3 hx1 hx2 hx3 h
  unfold f_Model_tells_L119 at h
  refine j_aloadn (k := 0) (D_Model_tells 58 rfl) rfl rfl ?_
  refine j_getR rfl fa_Model_64 kd_81 lc_81 (by decide) rfl fx_81_22 (by decide) (D_Model_tells 59 rfl) ?_
  refine j_iconst (v := 4) (D_Model_tells 60 rfl) rfl ?_
  refine j_iloadn (k := 1) (D_Model_tells 61 rfl) rfl rfl ?_
  refine j_imul (D_Model_tells 62 rfl) ?_
  refine j_iloadn (k := 3) (D_Model_tells 63 rfl) rfl rfl ?_
  refine j_iadd (D_Model_tells 64 rfl) ?_
  refine j_aloadn (k := 0) (D_Model_tells 65 rfl) rfl rfl ?_
  refine j_getR rfl fa_Model_91 kd_81 lc_81 (by decide) rfl fx_81_31 (by decide) (D_Model_tells 66 rfl) ?_
  refine j_iloadn (k := 2) (D_Model_tells 67 rfl) rfl rfl ?_
  have g1 := gd_c h
  replace h := gd_s h
  refine j_iald (NI := 30) (D_Model_tells 68 rfl) kd_109 lc_109 (hx2) rfl g1.1 g1.2 ?_
  have g2 := gd_c h
  replace h := gd_s h
  refine j_iast (NI := 16) (D_Model_tells 69 rfl) kd_100 lc_100 (rfl) rfl g2.1 g2.2 ?_
  refine j_gen (fun G1 e1 => ?_)
  replace h := wG_at h e1
  refine j_loc [0, 1, 2, 3] rfl ?_
  exact s_Model_tells_L135 hk94 (hx1) (hx2) (hx3) h
def f_Model_tells_L94 : Nat → GS → Int → Int → Int → Option (GS)
  | 0, _, _, _, _ => none
  | n + 1, G, x1, x2, x3 =>
    if 4 ≤ x3 then
      some G
    else
      gd (0 ≤ x2 ∧ x2 < 30) <|
      if gi G 110 x2.toNat = (-1) then
        f_Model_tells_L119 (f_Model_tells_L94 n) G x1 x2 x3
      else
        gd (0 ≤ x2 ∧ x2 < 30) <|
        if gi G 110 x2.toNat = x3 then
          f_Model_tells_L119 (f_Model_tells_L94 n) G x1 x2 x3
        else
          f_Model_tells_L135 (f_Model_tells_L94 n) G x1 x2 x3
theorem s_Model_tells_L94 {X : XT} {r : GS} : ∀ (n : Nat) {G : GS} {x1 : Int} {x2 : Int} {x3 : Int}, wr x1 = x1 → wr x2 = x2 → wr x3 = x3 → f_Model_tells_L94 n G x1 x2 x3 = some r → J X true 6 0 0 M_Model_tells (Rv r) NC 0 0 94 [(0, rf X 81), (1, vi x1), (2, vi x2), (3, vi x3)] [] G := by
  intro n
  induction n with
  | zero =>
    intro G x1 x2 x3 hx1 hx2 hx3 h
    exact none_some h
  | succ n ih =>
    intro G x1 x2 x3 hx1 hx2 hx3 h
    rw [f_Model_tells_L94] at h
    refine j_iloadn (k := 3) (D_Model_tells 43 rfl) rfl rfl ?_
    refine j_iconst (v := 4) (D_Model_tells 44 rfl) rfl ?_
    refine j_ic_ge (tgt := 141) (D_Model_tells 45 rfl) rfl (hx3) (wr_lit rfl) (fun c1 => ?_) (fun c1 => ?_)
    · replace h := ite_t h c1
      refine j_goto (tgt := 267) (D_Model_tells 72 rfl) rfl ?_
      exact j_vret (D_Model_tells 154 rfl) rfl rfl rfl (leafV h)
    · replace h := ite_f h c1
      refine j_aloadn (k := 0) (D_Model_tells 46 rfl) rfl rfl ?_
      refine j_getR rfl fa_Model_94 kd_81 lc_81 (by decide) rfl fx_81_32 (by decide) (D_Model_tells 47 rfl) ?_
      refine j_iloadn (k := 2) (D_Model_tells 48 rfl) rfl rfl ?_
      have g1 := gd_c h
      replace h := gd_s h
      refine j_iald (NI := 30) (D_Model_tells 49 rfl) kd_110 lc_110 (hx2) rfl g1.1 g1.2 ?_
      refine j_iconst (v := (-1)) (D_Model_tells 50 rfl) rfl ?_
      refine j_ic_eq (tgt := 119) (D_Model_tells 51 rfl) rfl (wr_gi _ _ _) (wr_lit rfl) (fun c2 => ?_) (fun c2 => ?_)
      · replace h := ite_t h c2
        refine j_loc [0, 1, 2, 3] rfl ?_
        exact s_Model_tells_L119 ih (hx1) (hx2) (hx3) h
      · replace h := ite_f h c2
        refine j_aloadn (k := 0) (D_Model_tells 52 rfl) rfl rfl ?_
        refine j_getR rfl fa_Model_94 kd_81 lc_81 (by decide) rfl fx_81_32 (by decide) (D_Model_tells 53 rfl) ?_
        refine j_iloadn (k := 2) (D_Model_tells 54 rfl) rfl rfl ?_
        have g2 := gd_c h
        replace h := gd_s h
        refine j_iald (NI := 30) (D_Model_tells 55 rfl) kd_110 lc_110 (hx2) rfl g2.1 g2.2 ?_
        refine j_iloadn (k := 3) (D_Model_tells 56 rfl) rfl rfl ?_
        refine j_ic_ne (tgt := 135) (D_Model_tells 57 rfl) rfl (wr_gi _ _ _) (hx3) (fun c3 => ?_) (fun c3 => ?_)
        · replace h := ite_f h c3
          refine j_loc [0, 1, 2, 3] rfl ?_
          exact s_Model_tells_L135 ih (hx1) (hx2) (hx3) h
        · replace h := ite_t h c3
          refine j_loc [0, 1, 2, 3] rfl ?_
          exact s_Model_tells_L119 ih (hx1) (hx2) (hx3) h
def f_Model_tells (G : GS) (a1 : Int) (a2 : Int) : Option (GS) :=
  gd (0 ≤ a2 ∧ a2 < 30) <|
  gd (0 ≤ wr ((30 * a1) + a2) ∧ wr ((30 * a1) + a2) < 120) <|
  wG (si G 105 (wr ((30 * a1) + a2)).toNat (gi G 113 a2.toNat)) fun G1 =>
  gd (0 ≤ a2 ∧ a2 < 31) <|
  gd (0 ≤ wr ((31 * a1) + a2) ∧ wr ((31 * a1) + a2) < 124) <|
  wG (si G1 106 (wr ((31 * a1) + a2)).toNat (gi G1 114 a2.toNat)) fun G2 =>
  gd (0 ≤ a2 ∧ a2 < 30) <|
  gd (0 ≤ wr ((30 * a1) + a2) ∧ wr ((30 * a1) + a2) < 120) <|
  wG (si G2 107 (wr ((30 * a1) + a2)).toNat (gi G2 115 a2.toNat)) fun G3 =>
  gd (0 ≤ a2 ∧ a2 < 30) <|
  if gi G3 113 a2.toNat = 3 then
    f_Model_tells_L94 FU G3 a1 a2 0
  else
    if gi G3 113 a2.toNat = 4 then
      gd (0 ≤ a2 ∧ a2 < 30) <|
      gd (0 ≤ a2 ∧ a2 < 30) <|
      gd (0 ≤ wr ((3 * a1) + (gi G3 109 a2.toNat)) ∧ wr ((3 * a1) + (gi G3 109 a2.toNat)) < 12) <|
      wG (si G3 101 (wr ((3 * a1) + (gi G3 109 a2.toNat))).toNat (gi G3 110 a2.toNat)) fun G4 =>
      gd (0 ≤ a2 ∧ a2 < 30) <|
      gd (0 ≤ a2 ∧ a2 < 30) <|
      gd (0 ≤ wr ((3 * a1) + (gi G4 109 a2.toNat)) ∧ wr ((3 * a1) + (gi G4 109 a2.toNat)) < 12) <|
      wG (si G4 102 (wr ((3 * a1) + (gi G4 109 a2.toNat))).toNat (gi G4 111 a2.toNat)) fun G5 =>
      gd (0 ≤ a2 ∧ a2 < 30) <|
      gd (0 ≤ a2 ∧ a2 < 30) <|
      gd (0 ≤ wr ((3 * a1) + (gi G5 109 a2.toNat)) ∧ wr ((3 * a1) + (gi G5 109 a2.toNat)) < 12) <|
      wG (si G5 103 (wr ((3 * a1) + (gi G5 109 a2.toNat))).toNat (gi G5 112 a2.toNat)) fun G6 =>
      some G6
    else
      if gi G3 113 a2.toNat = 5 then
        gd (0 ≤ a2 ∧ a2 < 30) <|
        gd (0 ≤ a1 ∧ a1 < 4) <|
        wG (si G3 96 a1.toNat (gi G3 109 a2.toNat)) fun G7 =>
        gd (0 ≤ a2 ∧ a2 < 30) <|
        gd (0 ≤ a1 ∧ a1 < 4) <|
        wG (si G7 97 a1.toNat (gi G7 110 a2.toNat)) fun G8 =>
        some G8
      else
        if gi G3 113 a2.toNat = 6 then
          gd (0 ≤ a2 ∧ a2 < 30) <|
          gd (0 ≤ a1 ∧ a1 < 4) <|
          wG (si G3 98 a1.toNat (gi G3 109 a2.toNat)) fun G9 =>
          some G9
        else
          if gi G3 113 a2.toNat = 7 then
            gd (0 ≤ a2 ∧ a2 < 30) <|
            gd (0 ≤ a1 ∧ a1 < 4) <|
            wG (si G3 99 a1.toNat (gi G3 109 a2.toNat)) fun G10 =>
            some G10
          else
            some G3
theorem c_Model_tells {X : XT} {G : GS} {a1 : Int} {a2 : Int} {r : GS} (ha1 : wr a1 = a1) (ha2 : wr a2 = a2) (h : f_Model_tells G a1 a2 = some r) : Call X true 6 0 0 M_Model_tells [rf X 81, vi a1, vi a2] NC G (Rv r) := by
  refine Call_of_J cw_Model_tells (by decide +kernel) (Nat.le_of_ble_eq_true rfl) ?_
  unfold f_Model_tells at h
  show J X true 6 0 0 M_Model_tells (Rv r) NC 0 0 0 [(0, rf X 81), (1, vi a1), (2, vi a2)] [] G
  refine j_aloadn (k := 0) (D_Model_tells 0 rfl) rfl rfl ?_
  refine j_getR rfl fa_Model_79 kd_81 lc_81 (by decide) rfl fx_81_27 (by decide) (D_Model_tells 1 rfl) ?_
  refine j_bipush (v := 30) (D_Model_tells 2 rfl) rfl ?_
  refine j_iloadn (k := 1) (D_Model_tells 3 rfl) rfl rfl ?_
  refine j_imul (D_Model_tells 4 rfl) ?_
  refine j_iloadn (k := 2) (D_Model_tells 5 rfl) rfl rfl ?_
  refine j_iadd (D_Model_tells 6 rfl) ?_
  refine j_aloadn (k := 0) (D_Model_tells 7 rfl) rfl rfl ?_
  refine j_getR rfl fa_Model_103 kd_81 lc_81 (by decide) rfl fx_81_35 (by decide) (D_Model_tells 8 rfl) ?_
  refine j_iloadn (k := 2) (D_Model_tells 9 rfl) rfl rfl ?_
  have g1 := gd_c h
  replace h := gd_s h
  refine j_iald (NI := 30) (D_Model_tells 10 rfl) kd_113 lc_113 (ha2) rfl g1.1 g1.2 ?_
  have g2 := gd_c h
  replace h := gd_s h
  refine j_iast (NI := 120) (D_Model_tells 11 rfl) kd_105 lc_105 (rfl) rfl g2.1 g2.2 ?_
  refine j_gen (fun G1 e1 => ?_)
  replace h := wG_at h e1
  refine j_aloadn (k := 0) (D_Model_tells 12 rfl) rfl rfl ?_
  refine j_getR rfl fa_Model_82 kd_81 lc_81 (by decide) rfl fx_81_28 (by decide) (D_Model_tells 13 rfl) ?_
  refine j_bipush (v := 31) (D_Model_tells 14 rfl) rfl ?_
  refine j_iloadn (k := 1) (D_Model_tells 15 rfl) rfl rfl ?_
  refine j_imul (D_Model_tells 16 rfl) ?_
  refine j_iloadn (k := 2) (D_Model_tells 17 rfl) rfl rfl ?_
  refine j_iadd (D_Model_tells 18 rfl) ?_
  refine j_aloadn (k := 0) (D_Model_tells 19 rfl) rfl rfl ?_
  refine j_getR rfl fa_Model_106 kd_81 lc_81 (by decide) rfl fx_81_36 (by decide) (D_Model_tells 20 rfl) ?_
  refine j_iloadn (k := 2) (D_Model_tells 21 rfl) rfl rfl ?_
  have g3 := gd_c h
  replace h := gd_s h
  refine j_iald (NI := 31) (D_Model_tells 22 rfl) kd_114 lc_114 (ha2) rfl g3.1 g3.2 ?_
  have g4 := gd_c h
  replace h := gd_s h
  refine j_iast (NI := 124) (D_Model_tells 23 rfl) kd_106 lc_106 (rfl) rfl g4.1 g4.2 ?_
  refine j_gen (fun G2 e2 => ?_)
  replace h := wG_at h e2
  refine j_aloadn (k := 0) (D_Model_tells 24 rfl) rfl rfl ?_
  refine j_getR rfl fa_Model_85 kd_81 lc_81 (by decide) rfl fx_81_29 (by decide) (D_Model_tells 25 rfl) ?_
  refine j_bipush (v := 30) (D_Model_tells 26 rfl) rfl ?_
  refine j_iloadn (k := 1) (D_Model_tells 27 rfl) rfl rfl ?_
  refine j_imul (D_Model_tells 28 rfl) ?_
  refine j_iloadn (k := 2) (D_Model_tells 29 rfl) rfl rfl ?_
  refine j_iadd (D_Model_tells 30 rfl) ?_
  refine j_aloadn (k := 0) (D_Model_tells 31 rfl) rfl rfl ?_
  refine j_getR rfl fa_Model_109 kd_81 lc_81 (by decide) rfl fx_81_37 (by decide) (D_Model_tells 32 rfl) ?_
  refine j_iloadn (k := 2) (D_Model_tells 33 rfl) rfl rfl ?_
  have g5 := gd_c h
  replace h := gd_s h
  refine j_iald (NI := 30) (D_Model_tells 34 rfl) kd_115 lc_115 (ha2) rfl g5.1 g5.2 ?_
  have g6 := gd_c h
  replace h := gd_s h
  refine j_iast (NI := 120) (D_Model_tells 35 rfl) kd_107 lc_107 (rfl) rfl g6.1 g6.2 ?_
  refine j_gen (fun G3 e3 => ?_)
  replace h := wG_at h e3
  refine j_aloadn (k := 0) (D_Model_tells 36 rfl) rfl rfl ?_
  refine j_getR rfl fa_Model_103 kd_81 lc_81 (by decide) rfl fx_81_35 (by decide) (D_Model_tells 37 rfl) ?_
  refine j_iloadn (k := 2) (D_Model_tells 38 rfl) rfl rfl ?_
  have g7 := gd_c h
  replace h := gd_s h
  refine j_iald (NI := 30) (D_Model_tells 39 rfl) kd_113 lc_113 (ha2) rfl g7.1 g7.2 ?_
  by_cases c1 : gi G3 113 a2.toNat = 3
  · replace h := ite_t h c1
    refine j_tIn (tgt := 92) (D_Model_tells 40 rfl) (wr_gi _ _ _) c1 (by decide) (by decide) rfl rfl ?_
    refine j_iconst (v := 0) (D_Model_tells 41 rfl) rfl ?_
    refine j_istoren (L' := [(3, vi 0), (0, rf X 81), (1, vi a1), (2, vi a2)]) (D_Model_tells 42 rfl) rfl (wr_lit rfl) (by decide) rfl ?_
    refine j_loc [1, 2, 3, 0] rfl ?_
    exact s_Model_tells_L94 FU (ha1) (ha2) (wr_lit rfl) h
  · replace h := ite_f h c1
    by_cases c2 : gi G3 113 a2.toNat = 4
    · replace h := ite_t h c2
      refine j_tIn (tgt := 144) (D_Model_tells 40 rfl) (wr_gi _ _ _) c2 (by decide) (by decide) rfl rfl ?_
      refine j_aloadn (k := 0) (D_Model_tells 73 rfl) rfl rfl ?_
      refine j_getR rfl fa_Model_67 kd_81 lc_81 (by decide) rfl fx_81_23 (by decide) (D_Model_tells 74 rfl) ?_
      refine j_iconst (v := 3) (D_Model_tells 75 rfl) rfl ?_
      refine j_iloadn (k := 1) (D_Model_tells 76 rfl) rfl rfl ?_
      refine j_imul (D_Model_tells 77 rfl) ?_
      refine j_aloadn (k := 0) (D_Model_tells 78 rfl) rfl rfl ?_
      refine j_getR rfl fa_Model_91 kd_81 lc_81 (by decide) rfl fx_81_31 (by decide) (D_Model_tells 79 rfl) ?_
      refine j_iloadn (k := 2) (D_Model_tells 80 rfl) rfl rfl ?_
      have g8 := gd_c h
      replace h := gd_s h
      refine j_iald (NI := 30) (D_Model_tells 81 rfl) kd_109 lc_109 (ha2) rfl g8.1 g8.2 ?_
      refine j_iadd (D_Model_tells 82 rfl) ?_
      refine j_aloadn (k := 0) (D_Model_tells 83 rfl) rfl rfl ?_
      refine j_getR rfl fa_Model_94 kd_81 lc_81 (by decide) rfl fx_81_32 (by decide) (D_Model_tells 84 rfl) ?_
      refine j_iloadn (k := 2) (D_Model_tells 85 rfl) rfl rfl ?_
      have g9 := gd_c h
      replace h := gd_s h
      refine j_iald (NI := 30) (D_Model_tells 86 rfl) kd_110 lc_110 (ha2) rfl g9.1 g9.2 ?_
      have g10 := gd_c h
      replace h := gd_s h
      refine j_iast (NI := 12) (D_Model_tells 87 rfl) kd_101 lc_101 (rfl) rfl g10.1 g10.2 ?_
      refine j_gen (fun G4 e4 => ?_)
      replace h := wG_at h e4
      refine j_aloadn (k := 0) (D_Model_tells 88 rfl) rfl rfl ?_
      refine j_getR rfl fa_Model_70 kd_81 lc_81 (by decide) rfl fx_81_24 (by decide) (D_Model_tells 89 rfl) ?_
      refine j_iconst (v := 3) (D_Model_tells 90 rfl) rfl ?_
      refine j_iloadn (k := 1) (D_Model_tells 91 rfl) rfl rfl ?_
      refine j_imul (D_Model_tells 92 rfl) ?_
      refine j_aloadn (k := 0) (D_Model_tells 93 rfl) rfl rfl ?_
      refine j_getR rfl fa_Model_91 kd_81 lc_81 (by decide) rfl fx_81_31 (by decide) (D_Model_tells 94 rfl) ?_
      refine j_iloadn (k := 2) (D_Model_tells 95 rfl) rfl rfl ?_
      have g11 := gd_c h
      replace h := gd_s h
      refine j_iald (NI := 30) (D_Model_tells 96 rfl) kd_109 lc_109 (ha2) rfl g11.1 g11.2 ?_
      refine j_iadd (D_Model_tells 97 rfl) ?_
      refine j_aloadn (k := 0) (D_Model_tells 98 rfl) rfl rfl ?_
      refine j_getR rfl fa_Model_97 kd_81 lc_81 (by decide) rfl fx_81_33 (by decide) (D_Model_tells 99 rfl) ?_
      refine j_iloadn (k := 2) (D_Model_tells 100 rfl) rfl rfl ?_
      have g12 := gd_c h
      replace h := gd_s h
      refine j_iald (NI := 30) (D_Model_tells 101 rfl) kd_111 lc_111 (ha2) rfl g12.1 g12.2 ?_
      have g13 := gd_c h
      replace h := gd_s h
      refine j_iast (NI := 12) (D_Model_tells 102 rfl) kd_102 lc_102 (rfl) rfl g13.1 g13.2 ?_
      refine j_gen (fun G5 e5 => ?_)
      replace h := wG_at h e5
      refine j_aloadn (k := 0) (D_Model_tells 103 rfl) rfl rfl ?_
      refine j_getR rfl fa_Model_73 kd_81 lc_81 (by decide) rfl fx_81_25 (by decide) (D_Model_tells 104 rfl) ?_
      refine j_iconst (v := 3) (D_Model_tells 105 rfl) rfl ?_
      refine j_iloadn (k := 1) (D_Model_tells 106 rfl) rfl rfl ?_
      refine j_imul (D_Model_tells 107 rfl) ?_
      refine j_aloadn (k := 0) (D_Model_tells 108 rfl) rfl rfl ?_
      refine j_getR rfl fa_Model_91 kd_81 lc_81 (by decide) rfl fx_81_31 (by decide) (D_Model_tells 109 rfl) ?_
      refine j_iloadn (k := 2) (D_Model_tells 110 rfl) rfl rfl ?_
      have g14 := gd_c h
      replace h := gd_s h
      refine j_iald (NI := 30) (D_Model_tells 111 rfl) kd_109 lc_109 (ha2) rfl g14.1 g14.2 ?_
      refine j_iadd (D_Model_tells 112 rfl) ?_
      refine j_aloadn (k := 0) (D_Model_tells 113 rfl) rfl rfl ?_
      refine j_getR rfl fa_Model_100 kd_81 lc_81 (by decide) rfl fx_81_34 (by decide) (D_Model_tells 114 rfl) ?_
      refine j_iloadn (k := 2) (D_Model_tells 115 rfl) rfl rfl ?_
      have g15 := gd_c h
      replace h := gd_s h
      refine j_iald (NI := 30) (D_Model_tells 116 rfl) kd_112 lc_112 (ha2) rfl g15.1 g15.2 ?_
      have g16 := gd_c h
      replace h := gd_s h
      refine j_iast (NI := 12) (D_Model_tells 117 rfl) kd_103 lc_103 (rfl) rfl g16.1 g16.2 ?_
      refine j_gen (fun G6 e6 => ?_)
      replace h := wG_at h e6
      refine j_goto (tgt := 267) (D_Model_tells 118 rfl) rfl ?_
      exact j_vret (D_Model_tells 154 rfl) rfl rfl rfl (leafV h)
    · replace h := ite_f h c2
      by_cases c3 : gi G3 113 a2.toNat = 5
      · replace h := ite_t h c3
        refine j_tIn (tgt := 210) (D_Model_tells 40 rfl) (wr_gi _ _ _) c3 (by decide) (by decide) rfl rfl ?_
        refine j_aloadn (k := 0) (D_Model_tells 119 rfl) rfl rfl ?_
        refine j_getR rfl fa_Model_52 kd_81 lc_81 (by decide) rfl fx_81_18 (by decide) (D_Model_tells 120 rfl) ?_
        refine j_iloadn (k := 1) (D_Model_tells 121 rfl) rfl rfl ?_
        refine j_aloadn (k := 0) (D_Model_tells 122 rfl) rfl rfl ?_
        refine j_getR rfl fa_Model_91 kd_81 lc_81 (by decide) rfl fx_81_31 (by decide) (D_Model_tells 123 rfl) ?_
        refine j_iloadn (k := 2) (D_Model_tells 124 rfl) rfl rfl ?_
        have g17 := gd_c h
        replace h := gd_s h
        refine j_iald (NI := 30) (D_Model_tells 125 rfl) kd_109 lc_109 (ha2) rfl g17.1 g17.2 ?_
        have g18 := gd_c h
        replace h := gd_s h
        refine j_iast (NI := 4) (D_Model_tells 126 rfl) kd_96 lc_96 (ha1) rfl g18.1 g18.2 ?_
        refine j_gen (fun G7 e7 => ?_)
        replace h := wG_at h e7
        refine j_aloadn (k := 0) (D_Model_tells 127 rfl) rfl rfl ?_
        refine j_getR rfl fa_Model_55 kd_81 lc_81 (by decide) rfl fx_81_19 (by decide) (D_Model_tells 128 rfl) ?_
        refine j_iloadn (k := 1) (D_Model_tells 129 rfl) rfl rfl ?_
        refine j_aloadn (k := 0) (D_Model_tells 130 rfl) rfl rfl ?_
        refine j_getR rfl fa_Model_94 kd_81 lc_81 (by decide) rfl fx_81_32 (by decide) (D_Model_tells 131 rfl) ?_
        refine j_iloadn (k := 2) (D_Model_tells 132 rfl) rfl rfl ?_
        have g19 := gd_c h
        replace h := gd_s h
        refine j_iald (NI := 30) (D_Model_tells 133 rfl) kd_110 lc_110 (ha2) rfl g19.1 g19.2 ?_
        have g20 := gd_c h
        replace h := gd_s h
        refine j_iast (NI := 4) (D_Model_tells 134 rfl) kd_97 lc_97 (ha1) rfl g20.1 g20.2 ?_
        refine j_gen (fun G8 e8 => ?_)
        replace h := wG_at h e8
        refine j_goto (tgt := 267) (D_Model_tells 135 rfl) rfl ?_
        exact j_vret (D_Model_tells 154 rfl) rfl rfl rfl (leafV h)
      · replace h := ite_f h c3
        by_cases c4 : gi G3 113 a2.toNat = 6
        · replace h := ite_t h c4
          refine j_tIn (tgt := 237) (D_Model_tells 40 rfl) (wr_gi _ _ _) c4 (by decide) (by decide) rfl rfl ?_
          refine j_aloadn (k := 0) (D_Model_tells 136 rfl) rfl rfl ?_
          refine j_getR rfl fa_Model_58 kd_81 lc_81 (by decide) rfl fx_81_20 (by decide) (D_Model_tells 137 rfl) ?_
          refine j_iloadn (k := 1) (D_Model_tells 138 rfl) rfl rfl ?_
          refine j_aloadn (k := 0) (D_Model_tells 139 rfl) rfl rfl ?_
          refine j_getR rfl fa_Model_91 kd_81 lc_81 (by decide) rfl fx_81_31 (by decide) (D_Model_tells 140 rfl) ?_
          refine j_iloadn (k := 2) (D_Model_tells 141 rfl) rfl rfl ?_
          have g21 := gd_c h
          replace h := gd_s h
          refine j_iald (NI := 30) (D_Model_tells 142 rfl) kd_109 lc_109 (ha2) rfl g21.1 g21.2 ?_
          have g22 := gd_c h
          replace h := gd_s h
          refine j_iast (NI := 4) (D_Model_tells 143 rfl) kd_98 lc_98 (ha1) rfl g22.1 g22.2 ?_
          refine j_gen (fun G9 e9 => ?_)
          replace h := wG_at h e9
          refine j_goto (tgt := 267) (D_Model_tells 144 rfl) rfl ?_
          exact j_vret (D_Model_tells 154 rfl) rfl rfl rfl (leafV h)
        · replace h := ite_f h c4
          by_cases c5 : gi G3 113 a2.toNat = 7
          · replace h := ite_t h c5
            refine j_tIn (tgt := 252) (D_Model_tells 40 rfl) (wr_gi _ _ _) c5 (by decide) (by decide) rfl rfl ?_
            refine j_aloadn (k := 0) (D_Model_tells 145 rfl) rfl rfl ?_
            refine j_getR rfl fa_Model_61 kd_81 lc_81 (by decide) rfl fx_81_21 (by decide) (D_Model_tells 146 rfl) ?_
            refine j_iloadn (k := 1) (D_Model_tells 147 rfl) rfl rfl ?_
            refine j_aloadn (k := 0) (D_Model_tells 148 rfl) rfl rfl ?_
            refine j_getR rfl fa_Model_91 kd_81 lc_81 (by decide) rfl fx_81_31 (by decide) (D_Model_tells 149 rfl) ?_
            refine j_iloadn (k := 2) (D_Model_tells 150 rfl) rfl rfl ?_
            have g23 := gd_c h
            replace h := gd_s h
            refine j_iald (NI := 30) (D_Model_tells 151 rfl) kd_109 lc_109 (ha2) rfl g23.1 g23.2 ?_
            have g24 := gd_c h
            replace h := gd_s h
            refine j_iast (NI := 4) (D_Model_tells 152 rfl) kd_99 lc_99 (ha1) rfl g24.1 g24.2 ?_
            refine j_gen (fun G10 e10 => ?_)
            replace h := wG_at h e10
            refine j_goto (tgt := 267) (D_Model_tells 153 rfl) rfl ?_
            exact j_vret (D_Model_tells 154 rfl) rfl rfl rfl (leafV h)
          · replace h := ite_f h c5
            refine j_tOut (tgt := 267) (D_Model_tells 40 rfl) (wr_gi _ _ _) (by omega) rfl ?_
            exact j_vret (D_Model_tells 154 rfl) rfl rfl rfl (leafV h)
