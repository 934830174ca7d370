/-! printed by wip/whole/gen.py out of the listing of the bytecode -/
abbrev M_Hall_feed : MI := (⟨"InquestHall", "feed", "(IIIII)I"⟩, prog_1_method_12_code, 6, (some .int))
theorem cw_Hall_feed : Cond.code M_Hall_feed.1 M_Hall_feed.2.1 M_Hall_feed.2.2.1 M_Hall_feed.2.2.2 ∈ TS := mTS (List.mem_of_getElem? (i := 730) (by decide +kernel)) (by decide +kernel)
theorem fa_Hall_26 : FA "InquestHall" 26 0 2 true (.object "InquestHall$Text") := ⟨_, _, _, _, ok_Hall, by decide, mTS (List.mem_of_getElem? (i := 594) (by decide +kernel)) (by decide +kernel), rfl, rfl⟩
theorem fx_0_2 {G : GS} (w : WF true NC G) : G.2.2 0 2 = 15 := w.2 rfl (0, 2, 15) (by decide)
theorem fa_Hall_158 : FA "InquestHall" 158 3 1 false .int := ⟨_, _, _, _, ok_Text, by decide, mTS (List.mem_of_getElem? (i := 294) (by decide +kernel)) (by decide +kernel), rfl, rfl⟩
theorem lk_Hall_161 : Cond.methodLink "InquestHall" 161 M_Text_put.1 ∈ TS := mTS (List.mem_of_getElem? (i := 731) (by decide +kernel)) (by decide +kernel)
theorem mok_Text_put : MOK M_Text_put 1 := ⟨mTS (List.mem_of_getElem? (i := 732) (by decide +kernel)) (by decide +kernel), mTS (List.mem_of_getElem? (i := 733) (by decide +kernel)) (by decide +kernel), mTS (List.mem_of_getElem? (i := 125) (by decide +kernel)) (by decide +kernel), cw_Text_put, ⟨by decide, by decide, by decide +kernel⟩, by decide +kernel, by decide⟩
def tb_Hall_feed : List (Nat × Instr × Nat) := [(0, .aload_n 0, 1), (1, .getfield 26, 3), (4, .getfield 158, 3), (7, .bipush 20, 2), (9, .iadd, 1), (10, .sipush 800, 3), (13, .if_icmp .le 5, 3), (16, .iconst (-1), 1), (17, .ireturn, 1), (18, .aload_n 0, 1), (19, .getfield 26, 3), (22, .iload_n 1, 1), (23, .invokevirtual 161, 3), (26, .aload_n 0, 1), (27, .getfield 26, 3), (30, .iload_n 2, 1), (31, .invokevirtual 161, 3), (34, .aload_n 0, 1), (35, .getfield 26, 3), (38, .iload_n 3, 1), (39, .invokevirtual 161, 3), (42, .aload_n 0, 1), (43, .getfield 26, 3), (46, .iload 4, 2), (48, .invokevirtual 161, 3), (51, .aload_n 0, 1), (52, .getfield 26, 3), (55, .iload 5, 2), (57, .invokevirtual 161, 3), (60, .aload_n 0, 1), (61, .getfield 26, 3), (64, .getfield 158, 3), (67, .ireturn, 1)]
theorem D_Hall_feed (i : Nat) {pc len : Nat} {ins : Instr} (hi : tb_Hall_feed[i]? = some (pc, ins, len)) : decode M_Hall_feed.2.1 pc = .ok (ins, len) := dec_of (by decide +kernel) i hi
def f_Hall_feed (G : GS) (a1 : Int) (a2 : Int) (a3 : Int) (a4 : Int) (a5 : Int) : Option (Int × GS) :=
  if wr ((gi G 15 1) + 20) ≤ 800 then
    (f_Text_put G a1).bind fun q1 =>
    (f_Text_put q1 a2).bind fun q2 =>
    (f_Text_put q2 a3).bind fun q3 =>
    (f_Text_put q3 a4).bind fun q4 =>
    (f_Text_put q4 a5).bind fun q5 =>
    some (gi q5 15 1, q5)
  else
    some ((-1), G)
theorem c_Hall_feed {X : XT} {G : GS} {a1 : Int} {a2 : Int} {a3 : Int} {a4 : Int} {a5 : Int} {r : Int × GS} (ha1 : wr a1 = a1) (ha2 : wr a2 = a2) (ha3 : wr a3 = a3) (ha4 : wr a4 = a4) (ha5 : wr a5 = a5) (h : f_Hall_feed G a1 a2 a3 a4 a5 = some r) : Call X true 7 0 0 M_Hall_feed [rf X 0, vi a1, vi a2, vi a3, vi a4, vi a5] NC G (Ri r.1 r.2) := by
  refine Call_of_J cw_Hall_feed (by decide +kernel) (Nat.le_of_ble_eq_true rfl) ?_
  unfold f_Hall_feed at h
  show J X true 7 0 0 M_Hall_feed (Ri r.1 r.2) NC 0 0 0 [(0, rf X 0), (1, vi a1), (2, vi a2), (3, vi a3), (4, vi a4), (5, vi a5)] [] G
  refine j_aloadn (k := 0) (D_Hall_feed 0 rfl) rfl rfl ?_
  refine j_getR rfl fa_Hall_26 kd_0 lc_0 (by decide) rfl fx_0_2 (by decide) (D_Hall_feed 1 rfl) ?_
  refine j_getI rfl fa_Hall_158 kd_15 lc_15 (by decide) rfl (D_Hall_feed 2 rfl) ?_
  refine j_bipush (v := 20) (D_Hall_feed 3 rfl) rfl ?_
  refine j_iadd (D_Hall_feed 4 rfl) ?_
  refine j_sipush (v := 800) (D_Hall_feed 5 rfl) rfl ?_
  refine j_ic_le (tgt := 18) (D_Hall_feed 6 rfl) rfl (rfl) (wr_lit rfl) (fun c1 => ?_) (fun c1 => ?_)
  · replace h := ite_t h c1
    refine j_aloadn (k := 0) (D_Hall_feed 9 rfl) rfl rfl ?_
    refine j_getR rfl fa_Hall_26 kd_0 lc_0 (by decide) rfl fx_0_2 (by decide) (D_Hall_feed 10 rfl) ?_
    refine j_iloadn (k := 1) (D_Hall_feed 11 rfl) rfl rfl ?_
    obtain ⟨q1, e1, h⟩ := Option.bind_eq_some_iff.mp h
    refine j_cVv (c_Text_put (ha1) e1) rfl lk_Hall_161 mok_Text_put kd_15 lc_15 rfl (by decide) rfl rfl (Nat.le_of_ble_eq_true rfl) (D_Hall_feed 12 rfl) ?_
    refine j_aloadn (k := 0) (D_Hall_feed 13 rfl) rfl rfl ?_
    refine j_getR rfl fa_Hall_26 kd_0 lc_0 (by decide) rfl fx_0_2 (by decide) (D_Hall_feed 14 rfl) ?_
    refine j_iloadn (k := 2) (D_Hall_feed 15 rfl) rfl rfl ?_
    obtain ⟨q2, e2, h⟩ := Option.bind_eq_some_iff.mp h
    refine j_cVv (c_Text_put (ha2) e2) rfl lk_Hall_161 mok_Text_put kd_15 lc_15 rfl (by decide) rfl rfl (Nat.le_of_ble_eq_true rfl) (D_Hall_feed 16 rfl) ?_
    refine j_aloadn (k := 0) (D_Hall_feed 17 rfl) rfl rfl ?_
    refine j_getR rfl fa_Hall_26 kd_0 lc_0 (by decide) rfl fx_0_2 (by decide) (D_Hall_feed 18 rfl) ?_
    refine j_iloadn (k := 3) (D_Hall_feed 19 rfl) rfl rfl ?_
    obtain ⟨q3, e3, h⟩ := Option.bind_eq_some_iff.mp h
    refine j_cVv (c_Text_put (ha3) e3) rfl lk_Hall_161 mok_Text_put kd_15 lc_15 rfl (by decide) rfl rfl (Nat.le_of_ble_eq_true rfl) (D_Hall_feed 20 rfl) ?_
    refine j_aloadn (k := 0) (D_Hall_feed 21 rfl) rfl rfl ?_
    refine j_getR rfl fa_Hall_26 kd_0 lc_0 (by decide) rfl fx_0_2 (by decide) (D_Hall_feed 22 rfl) ?_
    refine j_iload (k := 4) (D_Hall_feed 23 rfl) rfl ?_
    obtain ⟨q4, e4, h⟩ := Option.bind_eq_some_iff.mp h
    refine j_cVv (c_Text_put (ha4) e4) rfl lk_Hall_161 mok_Text_put kd_15 lc_15 rfl (by decide) rfl rfl (Nat.le_of_ble_eq_true rfl) (D_Hall_feed 24 rfl) ?_
    refine j_aloadn (k := 0) (D_Hall_feed 25 rfl) rfl rfl ?_
    refine j_getR rfl fa_Hall_26 kd_0 lc_0 (by decide) rfl fx_0_2 (by decide) (D_Hall_feed 26 rfl) ?_
    refine j_iload (k := 5) (D_Hall_feed 27 rfl) rfl ?_
    obtain ⟨q5, e5, h⟩ := Option.bind_eq_some_iff.mp h
    refine j_cVv (c_Text_put (ha5) e5) rfl lk_Hall_161 mok_Text_put kd_15 lc_15 rfl (by decide) rfl rfl (Nat.le_of_ble_eq_true rfl) (D_Hall_feed 28 rfl) ?_
    refine j_aloadn (k := 0) (D_Hall_feed 29 rfl) rfl rfl ?_
    refine j_getR rfl fa_Hall_26 kd_0 lc_0 (by decide) rfl fx_0_2 (by decide) (D_Hall_feed 30 rfl) ?_
    refine j_getI rfl fa_Hall_158 kd_15 lc_15 (by decide) rfl (D_Hall_feed 31 rfl) ?_
    exact j_iret (D_Hall_feed 32 rfl) rfl (wr_gi _ _ _) rfl rfl (leafI h (wr_n (wr_gi _ _ _)))
  · replace h := ite_f h c1
    refine j_iconst (v := (-1)) (D_Hall_feed 7 rfl) rfl ?_
    exact j_iret (D_Hall_feed 8 rfl) rfl (wr_lit rfl) rfl rfl (leafI h (wr_n (wr_lit rfl)))
abbrev M_Model_feed : MI := (⟨"InquestHallModel", "feed", "(IIIII)I"⟩, prog_14_method_23_code, 8, (some .int))
theorem cw_Model_feed : Cond.code M_Model_feed.1 M_Model_feed.2.1 M_Model_feed.2.2.1 M_Model_feed.2.2.2 ∈ TS := mTS (List.mem_of_getElem? (i := 1633) (by decide +kernel)) (by decide +kernel)
theorem fa_Model_226 : FA "InquestHallModel" 226 12 43 false .int := ⟨_, _, _, _, ok_Model, by decide, mTS (List.mem_of_getElem? (i := 1344) (by decide +kernel)) (by decide +kernel), rfl, rfl⟩
theorem fa_Model_115 : FA "InquestHallModel" 115 12 39 true (.array .int) := ⟨_, _, _, _, ok_Model, by decide, mTS (List.mem_of_getElem? (i := 1340) (by decide +kernel)) (by decide +kernel), rfl, rfl⟩
theorem fx_81_39 {G : GS} (w : WF true NC G) : G.2.2 81 39 = 117 := w.2 rfl (81, 39, 117) (by decide)
theorem kd_117 : kd 117 = (0, 800) := rfl
theorem lc_117 : 117 < NC := by decide
def tb_Model_feed : List (Nat × Instr × Nat) := [(0, .aload_n 0, 1), (1, .getfield 226, 3), (4, .bipush 20, 2), (6, .iadd, 1), (7, .sipush 800, 3), (10, .if_icmp .le 5, 3), (13, .iconst (-1), 1), (14, .ireturn, 1), (15, .iconst 0, 1), (16, .istore 6, 2), (18, .iload 6, 2), (20, .bipush 20, 2), (22, .if_icmp .ge 93, 3), (25, .iload 6, 2), (27, .iconst 4, 1), (28, .if_icmp .ge 7, 3), (31, .iload_n 1, 1), (32, .goto 39, 3), (35, .iload 6, 2), (37, .bipush 8, 2), (39, .if_icmp .ge 7, 3), (42, .iload_n 2, 1), (43, .goto 28, 3), (46, .iload 6, 2), (48, .bipush 12, 2), (50, .if_icmp .ge 7, 3), (53, .iload_n 3, 1), (54, .goto 17, 3), (57, .iload 6, 2), (59, .bipush 16, 2), (61, .if_icmp .ge 8, 3), (64, .iload 4, 2), (66, .goto 5, 3), (69, .iload 5, 2), (71, .istore 7, 2), (73, .aload_n 0, 1), (74, .getfield 115, 3), (77, .aload_n 0, 1), (78, .getfield 226, 3), (81, .iload 7, 2), (83, .bipush 24, 2), (85, .bipush 8, 2), (87, .iload 6, 2), (89, .iconst 4, 1), (90, .irem, 1), (91, .imul, 1), (92, .isub, 1), (93, .ishr, 1), (94, .sipush 255, 3), (97, .iand, 1), (98, .iastore, 1), (99, .aload_n 0, 1), (100, .dup, 1), (101, .getfield 226, 3), (104, .iconst 1, 1), (105, .iadd, 1), (106, .putfield 226, 3), (109, .iinc 6 1, 3), (112, .goto (-94), 3), (115, .aload_n 0, 1), (116, .getfield 226, 3), (119, .ireturn, 1)]
theorem D_Model_feed (i : Nat) {pc len : Nat} {ins : Instr} (hi : tb_Model_feed[i]? = some (pc, ins, len)) : decode M_Model_feed.2.1 pc = .ok (ins, len) := dec_of (by decide +kernel) i hi
def f_Model_feed_L71 (k18 : GS → Int → Int → Int → Int → Int → Int → Option (Int × GS)) (G : GS) (x1 : Int) (x2 : Int) (x3 : Int) (x4 : Int) (x5 : Int) (x6 : Int) (s0 : Int) : Option (Int × GS) :=
  gd (0 ≤ gi G 81 43 ∧ gi G 81 43 < 800) <|
  wG (si G 117 (gi G 81 43).toNat (bAnd (bShr s0 (24 - (8 * (md x6 4)))) 255)) fun G1 =>
  wG (si G1 81 43 ((gi G1 81 43) + 1)) fun G2 =>
  k18 G2 x1 x2 x3 x4 x5 (wr (x6 + 1))
theorem s_Model_feed_L71 {X : XT} {r : Int × GS} {k18 : GS → Int → Int → Int → Int → Int → Int → Option (Int × GS)} (hk18 : ∀ {G : GS} {x1 : Int} {x2 : Int} {x3 : Int} {x4 : Int} {x5 : Int} {x6 : Int} , wr x1 = x1 → wr x2 = x2 → wr x3 = x3 → wr x4 = x4 → wr x5 = x5 → wr x6 = x6 → k18 G x1 x2 x3 x4 x5 x6 = some r → J X true 6 0 0 M_Model_feed (Ri r.1 r.2) NC 0 0 18 [(0, rf X 81), (1, vi x1), (2, vi x2), (3, vi x3), (4, vi x4), (5, vi x5), (6, vi x6)] [] G) : ∀ {G : GS} {x1 : Int} {x2 : Int} {x3 : Int} {x4 : Int} {x5 : Int} {x6 : Int} {s0 : Int}, wr x1 = x1 → wr x2 = x2 → wr x3 = x3 → wr x4 = x4 → wr x5 = x5 → wr x6 = x6 → wr s0 = s0 → f_Model_feed_L71 k18 G x1 x2 x3 x4 x5 x6 s0 = some r → J X true 6 0 0 M_Model_feed (Ri r.1 r.2) NC 0 0 71 [(0, rf X 81), (1, vi x1), (2, vi x2), (3, vi x3), (4, vi x4), (5, vi x5), (6, vi x6)] [vi s0] G := by
  intro G x1 x2 x3 x4 x5 x6 s0 hx1 hx2 hx3 hx4 hx5 hx6 hs0 h
  unfold f_Model_feed_L71 at h
  refine j_istore (L' := [(7, vi s0), (0, rf X 81), (1, vi x1), (2, vi x2), (3, vi x3), (4, vi x4), (5, vi x5), (6, vi x6)]) (D_Model_feed 34 rfl) (hs0) (by decide) rfl ?_
  refine j_aloadn (k := 1) (D_Model_feed 35 rfl) rfl rfl ?_
  refine j_getR rfl fa_Model_115 kd_81 lc_81 (by decide) rfl fx_81_39 (by decide) (D_Model_feed 36 rfl) ?_
  refine j_aloadn (k := 1) (D_Model_feed 37 rfl) rfl rfl ?_
  refine j_getI rfl fa_Model_226 kd_81 lc_81 (by decide) rfl (D_Model_feed 38 rfl) ?_
  refine j_iload (k := 0) (D_Model_feed 39 rfl) rfl ?_
  refine j_bipush (v := 24) (D_Model_feed 40 rfl) rfl ?_
  refine j_bipush (v := 8) (D_Model_feed 41 rfl) rfl ?_
  refine j_iload (k := 7) (D_Model_feed 42 rfl) rfl ?_
  refine j_iconst (v := 4) (D_Model_feed 43 rfl) rfl ?_
  refine j_irem (D_Model_feed 44 rfl) (wr_lit rfl) (by decide) ?_
  refine j_imul (D_Model_feed 45 rfl) ?_
  refine j_isub (D_Model_feed 46 rfl) ?_
  refine j_ishr (D_Model_feed 47 rfl) ?_
  refine j_sipush (v := 255) (D_Model_feed 48 rfl) rfl ?_
  refine j_iand (D_Model_feed 49 rfl) ?_
  have g1 := gd_c h
  replace h := gd_s h
  refine j_iast (NI := 800) (D_Model_feed 50 rfl) kd_117 lc_117 (wr_gi _ _ _) rfl g1.1 g1.2 ?_
  refine j_gen (fun G1 e1 => ?_)
  replace h := wG_at h e1
  refine j_aloadn (k := 1) (D_Model_feed 51 rfl) rfl rfl ?_
  refine j_dup (D_Model_feed 52 rfl) rfl ?_
  refine j_getI rfl fa_Model_226 kd_81 lc_81 (by decide) rfl (D_Model_feed 53 rfl) ?_
  refine j_iconst (v := 1) (D_Model_feed 54 rfl) rfl ?_
  refine j_iadd (D_Model_feed 55 rfl) ?_
  refine j_putI rfl fa_Model_226 kd_81 lc_81 (by decide) rfl (D_Model_feed 56 rfl) ?_
  refine j_gen (fun G2 e2 => ?_)
  replace h := wG_at h e2
  refine j_iinc (k := 7) (L' := [(6, vi (wr (x6 + 1))), (7, vi s0), (0, rf X 81), (1, vi x1), (2, vi x2), (3, vi x3), (4, vi x4), (5, vi x5)]) (D_Model_feed 57 rfl) rfl rfl (by decide) rfl ?_
  refine j_goto (tgt := 18) (D_Model_feed 58 rfl) rfl ?_
  refine j_loc [2, 3, 4, 5, 6, 7, 0] rfl ?_
  exact hk18 (hx1) (hx2) (hx3) (hx4) (hx5) (wr_wr _) h
def f_Model_feed_L18 : Nat → GS → Int → Int → Int → Int → Int → Int → Option (Int × GS)
  | 0, _, _, _, _, _, _, _ => none
  | n + 1, G, x1, x2, x3, x4, x5, x6 =>
    if 20 ≤ x6 then
      some (gi G 81 43, G)
    else
      if 4 ≤ x6 then
        if 8 ≤ x6 then
          if 12 ≤ x6 then
            if 16 ≤ x6 then
              f_Model_feed_L71 (f_Model_feed_L18 n) G x1 x2 x3 x4 x5 x6 x5
            else
              f_Model_feed_L71 (f_Model_feed_L18 n) G x1 x2 x3 x4 x5 x6 x4
          else
            f_Model_feed_L71 (f_Model_feed_L18 n) G x1 x2 x3 x4 x5 x6 x3
        else
          f_Model_feed_L71 (f_Model_feed_L18 n) G x1 x2 x3 x4 x5 x6 x2
      else
        f_Model_feed_L71 (f_Model_feed_L18 n) G x1 x2 x3 x4 x5 x6 x1
theorem s_Model_feed_L18 {X : XT} {r : Int × GS} : ∀ (n : Nat) {G : GS} {x1 : Int} {x2 : Int} {x3 : Int} {x4 : Int} {x5 : Int} {x6 : Int}, wr x1 = x1 → wr x2 = x2 → wr x3 = x3 → wr x4 = x4 → wr x5 = x5 → wr x6 = x6 → f_Model_feed_L18 n G x1 x2 x3 x4 x5 x6 = some r → J X true 6 0 0 M_Model_feed (Ri r.1 r.2) NC 0 0 18 [(0, rf X 81), (1, vi x1), (2, vi x2), (3, vi x3), (4, vi x4), (5, vi x5), (6, vi x6)] [] G := by
  intro n
  induction n with
  | zero =>
    intro G x1 x2 x3 x4 x5 x6 hx1 hx2 hx3 hx4 hx5 hx6 h
    exact none_some h
  | succ n ih =>
    intro G x1 x2 x3 x4 x5 x6 hx1 hx2 hx3 hx4 hx5 hx6 h
    rw [f_Model_feed_L18] at h
    refine j_iload (k := 6) (D_Model_feed 10 rfl) rfl ?_
    refine j_bipush (v := 20) (D_Model_feed 11 rfl) rfl ?_
    refine j_ic_ge (tgt := 115) (D_Model_feed 12 rfl) rfl (hx6) (wr_lit rfl) (fun c1 => ?_) (fun c1 => ?_)
    · replace h := ite_t h c1
      refine j_aloadn (k := 0) (D_Model_feed 59 rfl) rfl rfl ?_
      refine j_getI rfl fa_Model_226 kd_81 lc_81 (by decide) rfl (D_Model_feed 60 rfl) ?_
      exact j_iret (D_Model_feed 61 rfl) rfl (wr_gi _ _ _) rfl rfl (leafI h (wr_n (wr_gi _ _ _)))
    · replace h := ite_f h c1
      refine j_iload (k := 6) (D_Model_feed 13 rfl) rfl ?_
      refine j_iconst (v := 4) (D_Model_feed 14 rfl) rfl ?_
      refine j_ic_ge (tgt := 35) (D_Model_feed 15 rfl) rfl (hx6) (wr_lit rfl) (fun c2 => ?_) (fun c2 => ?_)
      · replace h := ite_t h c2
        refine j_iload (k := 6) (D_Model_feed 18 rfl) rfl ?_
        refine j_bipush (v := 8) (D_Model_feed 19 rfl) rfl ?_
        refine j_ic_ge (tgt := 46) (D_Model_feed 20 rfl) rfl (hx6) (wr_lit rfl) (fun c3 => ?_) (fun c3 => ?_)
        · replace h := ite_t h c3
          refine j_iload (k := 6) (D_Model_feed 23 rfl) rfl ?_
          refine j_bipush (v := 12) (D_Model_feed 24 rfl) rfl ?_
          refine j_ic_ge (tgt := 57) (D_Model_feed 25 rfl) rfl (hx6) (wr_lit rfl) (fun c4 => ?_) (fun c4 => ?_)
          · replace h := ite_t h c4
            refine j_iload (k := 6) (D_Model_feed 28 rfl) rfl ?_
            refine j_bipush (v := 16) (D_Model_feed 29 rfl) rfl ?_
            refine j_ic_ge (tgt := 69) (D_Model_feed 30 rfl) rfl (hx6) (wr_lit rfl) (fun c5 => ?_) (fun c5 => ?_)
            · replace h := ite_t h c5
              refine j_iload (k := 5) (D_Model_feed 33 rfl) rfl ?_
              refine j_loc [0, 1, 2, 3, 4, 5, 6] rfl ?_
              exact s_Model_feed_L71 ih (hx1) (hx2) (hx3) (hx4) (hx5) (hx6) (hx5) h
            · replace h := ite_f h c5
              refine j_iload (k := 4) (D_Model_feed 31 rfl) rfl ?_
              refine j_goto (tgt := 71) (D_Model_feed 32 rfl) rfl ?_
              refine j_loc [0, 1, 2, 3, 4, 5, 6] rfl ?_
              exact s_Model_feed_L71 ih (hx1) (hx2) (hx3) (hx4) (hx5) (hx6) (hx4) h
          · replace h := ite_f h c4
            refine j_iloadn (k := 3) (D_Model_feed 26 rfl) rfl rfl ?_
            refine j_goto (tgt := 71) (D_Model_feed 27 rfl) rfl ?_
            refine j_loc [0, 1, 2, 3, 4, 5, 6] rfl ?_
            exact s_Model_feed_L71 ih (hx1) (hx2) (hx3) (hx4) (hx5) (hx6) (hx3) h
        · replace h := ite_f h c3
          refine j_iloadn (k := 2) (D_Model_feed 21 rfl) rfl rfl ?_
          refine j_goto (tgt := 71) (D_Model_feed 22 rfl) rfl ?_
          refine j_loc [0, 1, 2, 3, 4, 5, 6] rfl ?_
          exact s_Model_feed_L71 ih (hx1) (hx2) (hx3) (hx4) (hx5) (hx6) (hx2) h
      · replace h := ite_f h c2
        refine j_iloadn (k := 1) (D_Model_feed 16 rfl) rfl rfl ?_
        refine j_goto (tgt := 71) (D_Model_feed 17 rfl) rfl ?_
        refine j_loc [0, 1, 2, 3, 4, 5, 6] rfl ?_
        exact s_Model_feed_L71 ih (hx1) (hx2) (hx3) (hx4) (hx5) (hx6) (hx1) h
def f_Model_feed (G : GS) (a1 : Int) (a2 : Int) (a3 : Int) (a4 : Int) (a5 : Int) : Option (Int × GS) :=
  if wr ((gi G 81 43) + 20) ≤ 800 then
    f_Model_feed_L18 FU G a1 a2 a3 a4 a5 0
  else
    some ((-1), G)
theorem c_Model_feed {X : XT} {G : GS} {a1 : Int} {a2 : Int} {a3 : Int} {a4 : Int} {a5 : Int} {r : Int × GS} (ha1 : wr a1 = a1) (ha2 : wr a2 = a2) (ha3 : wr a3 = a3) (ha4 : wr a4 = a4) (ha5 : wr a5 = a5) (h : f_Model_feed G a1 a2 a3 a4 a5 = some r) : Call X true 6 0 0 M_Model_feed [rf X 81, vi a1, vi a2, vi a3, vi a4, vi a5] NC G (Ri r.1 r.2) := by
  refine Call_of_J cw_Model_feed (by decide +kernel) (Nat.le_of_ble_eq_true rfl) ?_
  unfold f_Model_feed at h
  show J X true 6 0 0 M_Model_feed (Ri r.1 r.2) NC 0 0 0 [(0, rf X 81), (1, vi a1), (2, vi a2), (3, vi a3), (4, vi a4), (5, vi a5)] [] G
  refine j_aloadn (k := 0) (D_Model_feed 0 rfl) rfl rfl ?_
  refine j_getI rfl fa_Model_226 kd_81 lc_81 (by decide) rfl (D_Model_feed 1 rfl) ?_
  refine j_bipush (v := 20) (D_Model_feed 2 rfl) rfl ?_
  refine j_iadd (D_Model_feed 3 rfl) ?_
  refine j_sipush (v := 800) (D_Model_feed 4 rfl) rfl ?_
  refine j_ic_le (tgt := 15) (D_Model_feed 5 rfl) rfl (rfl) (wr_lit rfl) (fun c1 => ?_) (fun c1 => ?_)
  · replace h := ite_t h c1
    refine j_iconst (v := 0) (D_Model_feed 8 rfl) rfl ?_
    refine j_istore (L' := [(6, vi 0), (0, rf X 81), (1, vi a1), (2, vi a2), (3, vi a3), (4, vi a4), (5, vi a5)]) (D_Model_feed 9 rfl) (wr_lit rfl) (by decide) rfl ?_
    refine j_loc [1, 2, 3, 4, 5, 6, 0] rfl ?_
    exact s_Model_feed_L18 FU (ha1) (ha2) (ha3) (ha4) (ha5) (wr_lit rfl) h
  · replace h := ite_f h c1
    refine j_iconst (v := (-1)) (D_Model_feed 6 rfl) rfl ?_
    exact j_iret (D_Model_feed 7 rfl) rfl (wr_lit rfl) rfl rfl (leafI h (wr_n (wr_lit rfl)))
abbrev M_Hall_end : MI := (⟨"InquestHall", "end", "(I)Z"⟩, prog_1_method_13_code, 2, (some .boolean))
theorem cw_Hall_end : Cond.code M_Hall_end.1 M_Hall_end.2.1 M_Hall_end.2.2.1 M_Hall_end.2.2.2 ∈ TS := mTS (List.mem_of_getElem? (i := 738) (by decide +kernel)) (by decide +kernel)
def tb_Hall_end : List (Nat × Instr × Nat) := [(0, .iload_n 1, 1), (1, .ifCond .lt 14, 3), (4, .iload_n 1, 1), (5, .aload_n 0, 1), (6, .getfield 26, 3), (9, .getfield 158, 3), (12, .if_icmp .le 5, 3), (15, .iconst 0, 1), (16, .ireturn, 1), (17, .aload_n 0, 1), (18, .getfield 26, 3), (21, .iload_n 1, 1), (22, .putfield 158, 3), (25, .iconst 1, 1), (26, .ireturn, 1)]
theorem D_Hall_end (i : Nat) {pc len : Nat} {ins : Instr} (hi : tb_Hall_end[i]? = some (pc, ins, len)) : decode M_Hall_end.2.1 pc = .ok (ins, len) := dec_of (by decide +kernel) i hi
def f_Hall_end (G : GS) (a1 : Int) : Option (Int × GS) :=
  if a1 < 0 then
    some (0, G)
  else
    if a1 ≤ gi G 15 1 then
      wG (si G 15 1 a1) fun G1 =>
      some (1, G1)
    else
      some (0, G)
theorem c_Hall_end {X : XT} {G : GS} {a1 : Int} {r : Int × GS} (ha1 : wr a1 = a1) (h : f_Hall_end G a1 = some r) : Call X true 6 0 0 M_Hall_end [rf X 0, vi a1] NC G (Rz r.1 r.2) := by
  refine Call_of_J cw_Hall_end (by decide +kernel) (Nat.le_of_ble_eq_true rfl) ?_
  unfold f_Hall_end at h
  show J X true 6 0 0 M_Hall_end (Rz r.1 r.2) NC 0 0 0 [(0, rf X 0), (1, vi a1)] [] G
  refine j_iloadn (k := 1) (D_Hall_end 0 rfl) rfl rfl ?_
  refine j_if_lt (tgt := 15) (D_Hall_end 1 rfl) rfl (ha1) (fun c1 => ?_) (fun c1 => ?_)
  · replace h := ite_t h c1
    refine j_iconst (v := 0) (D_Hall_end 7 rfl) rfl ?_
    exact j_zret (D_Hall_end 8 rfl) rfl (wr_lit rfl) (nz_01 (by decide)) rfl rfl (leafZ h (wr_n (wr_lit rfl)) (by decide))
  · replace h := ite_f h c1
    refine j_iloadn (k := 1) (D_Hall_end 2 rfl) rfl rfl ?_
    refine j_aloadn (k := 0) (D_Hall_end 3 rfl) rfl rfl ?_
    refine j_getR rfl fa_Hall_26 kd_0 lc_0 (by decide) rfl fx_0_2 (by decide) (D_Hall_end 4 rfl) ?_
    refine j_getI rfl fa_Hall_158 kd_15 lc_15 (by decide) rfl (D_Hall_end 5 rfl) ?_
    refine j_ic_le (tgt := 17) (D_Hall_end 6 rfl) rfl (ha1) (wr_gi _ _ _) (fun c2 => ?_) (fun c2 => ?_)
    · replace h := ite_t h c2
      refine j_aloadn (k := 0) (D_Hall_end 9 rfl) rfl rfl ?_
      refine j_getR rfl fa_Hall_26 kd_0 lc_0 (by decide) rfl fx_0_2 (by decide) (D_Hall_end 10 rfl) ?_
      refine j_iloadn (k := 1) (D_Hall_end 11 rfl) rfl rfl ?_
      refine j_putI rfl fa_Hall_158 kd_15 lc_15 (by decide) rfl (D_Hall_end 12 rfl) ?_
      refine j_gen (fun G1 e1 => ?_)
      replace h := wG_at h e1
      refine j_iconst (v := 1) (D_Hall_end 13 rfl) rfl ?_
      exact j_zret (D_Hall_end 14 rfl) rfl (wr_lit rfl) (nz_01 (by decide)) rfl rfl (leafZ h (wr_n (wr_lit rfl)) (by decide))
    · replace h := ite_f h c2
      refine j_iconst (v := 0) (D_Hall_end 7 rfl) rfl ?_
      exact j_zret (D_Hall_end 8 rfl) rfl (wr_lit rfl) (nz_01 (by decide)) rfl rfl (leafZ h (wr_n (wr_lit rfl)) (by decide))
abbrev M_Model_end : MI := (⟨"InquestHallModel", "end", "(I)Z"⟩, prog_14_method_24_code, 2, (some .boolean))
theorem cw_Model_end : Cond.code M_Model_end.1 M_Model_end.2.1 M_Model_end.2.2.1 M_Model_end.2.2.2 ∈ TS := mTS (List.mem_of_getElem? (i := 1637) (by decide +kernel)) (by decide +kernel)
def tb_Model_end : List (Nat × Instr × Nat) := [(0, .iload_n 1, 1), (1, .iconst 0, 1), (2, .aload_n 0, 1), (3, .getfield 226, 3), (6, .invokestatic 188, 3), (9, .ifCond .ne 5, 3), (12, .iconst 0, 1), (13, .ireturn, 1), (14, .aload_n 0, 1), (15, .iload_n 1, 1), (16, .putfield 226, 3), (19, .iconst 1, 1), (20, .ireturn, 1)]
theorem D_Model_end (i : Nat) {pc len : Nat} {ins : Instr} (hi : tb_Model_end[i]? = some (pc, ins, len)) : decode M_Model_end.2.1 pc = .ok (ins, len) := dec_of (by decide +kernel) i hi
def f_Model_end (G : GS) (a1 : Int) : Option (Int × GS) :=
  (f_Model_isIn G a1 0 (gi G 81 43)).bind fun q1 =>
  if q1 = 0 then
    some (0, G)
  else
    wG (si G 81 43 a1) fun G1 =>
    some (1, G1)
theorem c_Model_end {X : XT} {G : GS} {a1 : Int} {r : Int × GS} (ha1 : wr a1 = a1) (h : f_Model_end G a1 = some r) : Call X true 7 0 0 M_Model_end [rf X 81, vi a1] NC G (Rz r.1 r.2) := by
  refine Call_of_J cw_Model_end (by decide +kernel) (Nat.le_of_ble_eq_true rfl) ?_
  unfold f_Model_end at h
  show J X true 7 0 0 M_Model_end (Rz r.1 r.2) NC 0 0 0 [(0, rf X 81), (1, vi a1)] [] G
  refine j_iloadn (k := 1) (D_Model_end 0 rfl) rfl rfl ?_
  refine j_iconst (v := 0) (D_Model_end 1 rfl) rfl ?_
  refine j_aloadn (k := 0) (D_Model_end 2 rfl) rfl rfl ?_
  refine j_getI rfl fa_Model_226 kd_81 lc_81 (by decide) rfl (D_Model_end 3 rfl) ?_
  obtain ⟨q1, e1, h⟩ := Option.bind_eq_some_iff.mp h
  refine j_cSz (c_Model_isIn (ha1) (wr_lit rfl) (wr_gi _ _ _) e1) rfl lk_Model_188 sok_Model_isIn (by decide) rfl rfl (Nat.le_of_ble_eq_true rfl) (D_Model_end 4 rfl) (fun w1 bw1 => ?_)
  refine j_if_ne (tgt := 14) (D_Model_end 5 rfl) rfl (w1) (fun c1 => ?_) (fun c1 => ?_)
  · replace h := ite_f h c1
    refine j_aloadn (k := 0) (D_Model_end 8 rfl) rfl rfl ?_
    refine j_iloadn (k := 1) (D_Model_end 9 rfl) rfl rfl ?_
    refine j_putI rfl fa_Model_226 kd_81 lc_81 (by decide) rfl (D_Model_end 10 rfl) ?_
    refine j_gen (fun G1 e2 => ?_)
    replace h := wG_at h e2
    refine j_iconst (v := 1) (D_Model_end 11 rfl) rfl ?_
    exact j_zret (D_Model_end 12 rfl) rfl (wr_lit rfl) (nz_01 (by decide)) rfl rfl (leafZ h (wr_n (wr_lit rfl)) (by decide))
  · replace h := ite_t h c1
    refine j_iconst (v := 0) (D_Model_end 6 rfl) rfl ?_
    exact j_zret (D_Model_end 7 rfl) rfl (wr_lit rfl) (nz_01 (by decide)) rfl rfl (leafZ h (wr_n (wr_lit rfl)) (by decide))
abbrev M_Text_isLetter : MI := (⟨"InquestHall$Text", "isLetter", "(I)Z"⟩, prog_12_method_5_code, 1, (some .boolean))
theorem cw_Text_isLetter : Cond.code M_Text_isLetter.1 M_Text_isLetter.2.1 M_Text_isLetter.2.2.1 M_Text_isLetter.2.2.2 ∈ TS := mTS (List.mem_of_getElem? (i := 753) (by decide +kernel)) (by decide +kernel)
def tb_Text_isLetter : List (Nat × Instr × Nat) := [(0, .iload_n 0, 1), (1, .bipush 97, 2), (3, .if_icmp .lt 9, 3), (6, .iload_n 0, 1), (7, .bipush 122, 2), (9, .if_icmp .le 15, 3), (12, .iload_n 0, 1), (13, .bipush 65, 2), (15, .if_icmp .lt 13, 3), (18, .iload_n 0, 1), (19, .bipush 90, 2), (21, .if_icmp .gt 7, 3), (24, .iconst 1, 1), (25, .goto 4, 3), (28, .iconst 0, 1), (29, .ireturn, 1)]
theorem D_Text_isLetter (i : Nat) {pc len : Nat} {ins : Instr} (hi : tb_Text_isLetter[i]? = some (pc, ins, len)) : decode M_Text_isLetter.2.1 pc = .ok (ins, len) := dec_of (by decide +kernel) i hi
def f_Text_isLetter_L12 (G : GS) (x0 : Int) : Option (Int) :=
  if x0 < 65 then
    some 0
  else
    if 90 < x0 then
      some 0
    else
      some 1
theorem s_Text_isLetter_L12 {X : XT} {G : GS} {r : Int} : ∀ {x0 : Int}, wr x0 = x0 → f_Text_isLetter_L12 G x0 = some r → J X true 6 0 0 M_Text_isLetter (Rz r G) NC 0 0 12 [(0, vi x0)] [] G := by
  intro x0 hx0 h
  unfold f_Text_isLetter_L12 at h
  refine j_iloadn (k := 0) (D_Text_isLetter 6 rfl) rfl rfl ?_
  refine j_bipush (v := 65) (D_Text_isLetter 7 rfl) rfl ?_
  refine j_ic_lt (tgt := 28) (D_Text_isLetter 8 rfl) rfl (hx0) (wr_lit rfl) (fun c1 => ?_) (fun c1 => ?_)
  · replace h := ite_t h c1
    refine j_iconst (v := 0) (D_Text_isLetter 14 rfl) rfl ?_
    exact j_zret (D_Text_isLetter 15 rfl) rfl (wr_lit rfl) (nz_01 (by decide)) rfl rfl (leafZo h (wr_n (wr_lit rfl)) (by decide))
  · replace h := ite_f h c1
    refine j_iloadn (k := 0) (D_Text_isLetter 9 rfl) rfl rfl ?_
    refine j_bipush (v := 90) (D_Text_isLetter 10 rfl) rfl ?_
    refine j_ic_gt (tgt := 28) (D_Text_isLetter 11 rfl) rfl (hx0) (wr_lit rfl) (fun c2 => ?_) (fun c2 => ?_)
    · replace h := ite_t h c2
      refine j_iconst (v := 0) (D_Text_isLetter 14 rfl) rfl ?_
      exact j_zret (D_Text_isLetter 15 rfl) rfl (wr_lit rfl) (nz_01 (by decide)) rfl rfl (leafZo h (wr_n (wr_lit rfl)) (by decide))
    · replace h := ite_f h c2
      refine j_iconst (v := 1) (D_Text_isLetter 12 rfl) rfl ?_
      refine j_goto (tgt := 29) (D_Text_isLetter 13 rfl) rfl ?_
      exact j_zret (D_Text_isLetter 15 rfl) rfl (wr_lit rfl) (nz_01 (by decide)) rfl rfl (leafZo h (wr_n (wr_lit rfl)) (by decide))
def f_Text_isLetter (G : GS) (a0 : Int) : Option (Int) :=
  if a0 < 97 then
    f_Text_isLetter_L12 G a0
  else
    if a0 ≤ 122 then
      some 1
    else
      f_Text_isLetter_L12 G a0
theorem c_Text_isLetter {X : XT} {G : GS} {a0 : Int} {r : Int} (ha0 : wr a0 = a0) (h : f_Text_isLetter G a0 = some r) : Call X true 6 0 0 M_Text_isLetter [vi a0] NC G (Rz r G) := by
  refine Call_of_J cw_Text_isLetter (by decide +kernel) (Nat.le_of_ble_eq_true rfl) ?_
  unfold f_Text_isLetter at h
  show J X true 6 0 0 M_Text_isLetter (Rz r G) NC 0 0 0 [(0, vi a0)] [] G
  refine j_iloadn (k := 0) (D_Text_isLetter 0 rfl) rfl rfl ?_
  refine j_bipush (v := 97) (D_Text_isLetter 1 rfl) rfl ?_
  refine j_ic_lt (tgt := 12) (D_Text_isLetter 2 rfl) rfl (ha0) (wr_lit rfl) (fun c1 => ?_) (fun c1 => ?_)
  · replace h := ite_t h c1
    refine j_loc [0] rfl ?_
    exact s_Text_isLetter_L12 (ha0) h
  · replace h := ite_f h c1
    refine j_iloadn (k := 0) (D_Text_isLetter 3 rfl) rfl rfl ?_
    refine j_bipush (v := 122) (D_Text_isLetter 4 rfl) rfl ?_
    refine j_ic_le (tgt := 24) (D_Text_isLetter 5 rfl) rfl (ha0) (wr_lit rfl) (fun c2 => ?_) (fun c2 => ?_)
    · replace h := ite_t h c2
      refine j_iconst (v := 1) (D_Text_isLetter 12 rfl) rfl ?_
      refine j_goto (tgt := 29) (D_Text_isLetter 13 rfl) rfl ?_
      exact j_zret (D_Text_isLetter 15 rfl) rfl (wr_lit rfl) (nz_01 (by decide)) rfl rfl (leafZo h (wr_n (wr_lit rfl)) (by decide))
    · replace h := ite_f h c2
      refine j_loc [0] rfl ?_
      exact s_Text_isLetter_L12 (ha0) h
abbrev M_Text_isDigit : MI := (⟨"InquestHall$Text", "isDigit", "(I)Z"⟩, prog_12_method_6_code, 1, (some .boolean))
theorem cw_Text_isDigit : Cond.code M_Text_isDigit.1 M_Text_isDigit.2.1 M_Text_isDigit.2.2.1 M_Text_isDigit.2.2.2 ∈ TS := mTS (List.mem_of_getElem? (i := 756) (by decide +kernel)) (by decide +kernel)
def tb_Text_isDigit : List (Nat × Instr × Nat) := [(0, .iload_n 0, 1), (1, .bipush 48, 2), (3, .if_icmp .lt 13, 3), (6, .iload_n 0, 1), (7, .bipush 57, 2), (9, .if_icmp .gt 7, 3), (12, .iconst 1, 1), (13, .goto 4, 3), (16, .iconst 0, 1), (17, .ireturn, 1)]
theorem D_Text_isDigit (i : Nat) {pc len : Nat} {ins : Instr} (hi : tb_Text_isDigit[i]? = some (pc, ins, len)) : decode M_Text_isDigit.2.1 pc = .ok (ins, len) := dec_of (by decide +kernel) i hi
def f_Text_isDigit (G : GS) (a0 : Int) : Option (Int) :=
  if a0 < 48 then
    some 0
  else
    if 57 < a0 then
      some 0
    else
      some 1
theorem c_Text_isDigit {X : XT} {G : GS} {a0 : Int} {r : Int} (ha0 : wr a0 = a0) (h : f_Text_isDigit G a0 = some r) : Call X true 6 0 0 M_Text_isDigit [vi a0] NC G (Rz r G) := by
  refine Call_of_J cw_Text_isDigit (by decide +kernel) (Nat.le_of_ble_eq_true rfl) ?_
  unfold f_Text_isDigit at h
  show J X true 6 0 0 M_Text_isDigit (Rz r G) NC 0 0 0 [(0, vi a0)] [] G
  refine j_iloadn (k := 0) (D_Text_isDigit 0 rfl) rfl rfl ?_
  refine j_bipush (v := 48) (D_Text_isDigit 1 rfl) rfl ?_
  refine j_ic_lt (tgt := 16) (D_Text_isDigit 2 rfl) rfl (ha0) (wr_lit rfl) (fun c1 => ?_) (fun c1 => ?_)
  · replace h := ite_t h c1
    refine j_iconst (v := 0) (D_Text_isDigit 8 rfl) rfl ?_
    exact j_zret (D_Text_isDigit 9 rfl) rfl (wr_lit rfl) (nz_01 (by decide)) rfl rfl (leafZo h (wr_n (wr_lit rfl)) (by decide))
  · replace h := ite_f h c1
    refine j_iloadn (k := 0) (D_Text_isDigit 3 rfl) rfl rfl ?_
    refine j_bipush (v := 57) (D_Text_isDigit 4 rfl) rfl ?_
    refine j_ic_gt (tgt := 16) (D_Text_isDigit 5 rfl) rfl (ha0) (wr_lit rfl) (fun c2 => ?_) (fun c2 => ?_)
    · replace h := ite_t h c2
      refine j_iconst (v := 0) (D_Text_isDigit 8 rfl) rfl ?_
      exact j_zret (D_Text_isDigit 9 rfl) rfl (wr_lit rfl) (nz_01 (by decide)) rfl rfl (leafZo h (wr_n (wr_lit rfl)) (by decide))
    · replace h := ite_f h c2
      refine j_iconst (v := 1) (D_Text_isDigit 6 rfl) rfl ?_
      refine j_goto (tgt := 17) (D_Text_isDigit 7 rfl) rfl ?_
      exact j_zret (D_Text_isDigit 9 rfl) rfl (wr_lit rfl) (nz_01 (by decide)) rfl rfl (leafZo h (wr_n (wr_lit rfl)) (by decide))
abbrev M_Text_lastTogether : MI := (⟨"InquestHall$Text", "lastTogether", "(I)I"⟩, prog_12_method_8_code, 4, (some .int))
theorem cw_Text_lastTogether : Cond.code M_Text_lastTogether.1 M_Text_lastTogether.2.1 M_Text_lastTogether.2.2.1 M_Text_lastTogether.2.2.2 ∈ TS := mTS (List.mem_of_getElem? (i := 750) (by decide +kernel)) (by decide +kernel)
theorem lk_Text_70 : Cond.methodLink "InquestHall$Text" 70 M_Text_isLetter.1 ∈ TS := mTS (List.mem_of_getElem? (i := 751) (by decide +kernel)) (by decide +kernel)
theorem sok_Text_isLetter : SOK M_Text_isLetter 1 := ⟨mTS (List.mem_of_getElem? (i := 752) (by decide +kernel)) (by decide +kernel), mTS (List.mem_of_getElem? (i := 125) (by decide +kernel)) (by decide +kernel), cw_Text_isLetter, ⟨by decide, by decide, by decide +kernel⟩, by decide +kernel, by decide⟩
theorem lk_Text_74 : Cond.methodLink "InquestHall$Text" 74 M_Text_isDigit.1 ∈ TS := mTS (List.mem_of_getElem? (i := 754) (by decide +kernel)) (by decide +kernel)
theorem sok_Text_isDigit : SOK M_Text_isDigit 1 := ⟨mTS (List.mem_of_getElem? (i := 755) (by decide +kernel)) (by decide +kernel), mTS (List.mem_of_getElem? (i := 125) (by decide +kernel)) (by decide +kernel), cw_Text_isDigit, ⟨by decide, by decide, by decide +kernel⟩, by decide +kernel, by decide⟩
def tb_Text_lastTogether : List (Nat × Instr × Nat) := [(0, .iload_n 1, 1), (1, .istore_n 2, 1), (2, .aload_n 0, 1), (3, .getfield 11, 3), (6, .iload_n 1, 1), (7, .baload, 1), (8, .invokestatic 70, 3), (11, .ifCond .eq 38, 3), (14, .iload_n 1, 1), (15, .iconst 1, 1), (16, .iadd, 1), (17, .istore_n 3, 1), (18, .iload_n 3, 1), (19, .aload_n 0, 1), (20, .getfield 44, 3), (23, .if_icmp .ge 23, 3), (26, .aload_n 0, 1), (27, .getfield 11, 3), (30, .iload_n 3, 1), (31, .baload, 1), (32, .invokestatic 70, 3), (35, .ifCond .eq 11, 3), (38, .iload_n 3, 1), (39, .istore_n 2, 1), (40, .iinc 3 1, 3), (43, .goto (-25), 3), (46, .goto 47, 3), (49, .aload_n 0, 1), (50, .getfield 11, 3), (53, .iload_n 1, 1), (54, .baload, 1), (55, .invokestatic 74, 3), (58, .ifCond .eq 35, 3), (61, .iload_n 1, 1), (62, .iconst 1, 1), (63, .iadd, 1), (64, .istore_n 3, 1), (65, .iload_n 3, 1), (66, .aload_n 0, 1), (67, .getfield 44, 3), (70, .if_icmp .ge 23, 3), (73, .aload_n 0, 1), (74, .getfield 11, 3), (77, .iload_n 3, 1), (78, .baload, 1), (79, .invokestatic 74, 3), (82, .ifCond .eq 11, 3), (85, .iload_n 3, 1), (86, .istore_n 2, 1), (87, .iinc 3 1, 3), (90, .goto (-25), 3), (93, .iload_n 2, 1), (94, .ireturn, 1)]
theorem D_Text_lastTogether (i : Nat) {pc len : Nat} {ins : Instr} (hi : tb_Text_lastTogether[i]? = some (pc, ins, len)) : decode M_Text_lastTogether.2.1 pc = .ok (ins, len) := dec_of (by decide +kernel) i hi
def f_Text_lastTogether_L65 (G : GS) : Nat → Int → Int → Option (Int)
  | 0, _, _ => none
  | n + 1, x2, x3 =>
    if gi G 15 1 ≤ x3 then
      some x2
    else
      gd (0 ≤ x3 ∧ x3 < 800) <|
      (f_Text_isDigit G (gi G 16 x3.toNat)).bind fun q1 =>
      if q1 = 0 then
        some x2
      else
        f_Text_lastTogether_L65 G n x3 (wr (x3 + 1))
theorem s_Text_lastTogether_L65 {X : XT} {G : GS} {r : Int} : ∀ (n : Nat) {x2 : Int} {x3 : Int}, wr x2 = x2 → wr x3 = x3 → f_Text_lastTogether_L65 G n x2 x3 = some r → J X true 7 0 0 M_Text_lastTogether (Ri r G) NC 0 0 65 [(0, rf X 15), (2, vi x2), (3, vi x3)] [] G := by
  intro n
  induction n with
  | zero =>
    intro x2 x3 hx2 hx3 h
    exact none_some h
  | succ n ih =>
    intro x2 x3 hx2 hx3 h
    rw [f_Text_lastTogether_L65] at h
    refine j_iloadn (k := 2) (D_Text_lastTogether 37 rfl) rfl rfl ?_
    refine j_aloadn (k := 0) (D_Text_lastTogether 38 rfl) rfl rfl ?_
    refine j_getI rfl fa_Text_44 kd_15 lc_15 (by decide) rfl (D_Text_lastTogether 39 rfl) ?_
    refine j_ic_ge (tgt := 93) (D_Text_lastTogether 40 rfl) rfl (hx3) (wr_gi _ _ _) (fun c1 => ?_) (fun c1 => ?_)
    · replace h := ite_t h c1
      refine j_iloadn (k := 1) (D_Text_lastTogether 51 rfl) rfl rfl ?_
      exact j_iret (D_Text_lastTogether 52 rfl) rfl (hx2) rfl rfl (leafIo h (wr_n (hx2)))
    · replace h := ite_f h c1
      refine j_aloadn (k := 0) (D_Text_lastTogether 41 rfl) rfl rfl ?_
      refine j_getR rfl fa_Text_11 kd_15 lc_15 (by decide) rfl fx_15_0 (by decide) (D_Text_lastTogether 42 rfl) ?_
      refine j_iloadn (k := 2) (D_Text_lastTogether 43 rfl) rfl rfl ?_
      have g1 := gd_c h
      replace h := gd_s h
      refine j_bald (NI := 800) (D_Text_lastTogether 44 rfl) kd_16 lc_16 (hx3) rfl g1.1 g1.2 ?_
      obtain ⟨q1, e1, h⟩ := Option.bind_eq_some_iff.mp h
      refine j_cSz (c_Text_isDigit (wr_gi _ _ _) e1) rfl lk_Text_74 sok_Text_isDigit (by decide) rfl rfl (Nat.le_of_ble_eq_true rfl) (D_Text_lastTogether 45 rfl) (fun w1 bw1 => ?_)
      refine j_if_eq (tgt := 93) (D_Text_lastTogether 46 rfl) rfl (w1) (fun c2 => ?_) (fun c2 => ?_)
      · replace h := ite_t h c2
        refine j_iloadn (k := 1) (D_Text_lastTogether 51 rfl) rfl rfl ?_
        exact j_iret (D_Text_lastTogether 52 rfl) rfl (hx2) rfl rfl (leafIo h (wr_n (hx2)))
      · replace h := ite_f h c2
        refine j_iloadn (k := 2) (D_Text_lastTogether 47 rfl) rfl rfl ?_
        refine j_istoren (L' := [(2, vi x3), (0, rf X 15), (3, vi x3)]) (D_Text_lastTogether 48 rfl) rfl (hx3) (by decide) rfl ?_
        refine j_iinc (k := 2) (L' := [(3, vi (wr (x3 + 1))), (2, vi x3), (0, rf X 15)]) (D_Text_lastTogether 49 rfl) rfl rfl (by decide) rfl ?_
        refine j_goto (tgt := 65) (D_Text_lastTogether 50 rfl) rfl ?_
        refine j_loc [2, 1, 0] rfl ?_
        exact ih (hx3) (wr_wr _) h
def f_Text_lastTogether_L18 (G : GS) : Nat → Int → Int → Option (Int)
  | 0, _, _ => none
  | n + 1, x2, x3 =>
    if gi G 15 1 ≤ x3 then
      some x2
    else
      gd (0 ≤ x3 ∧ x3 < 800) <|
      (f_Text_isLetter G (gi G 16 x3.toNat)).bind fun q1 =>
      if q1 = 0 then
        some x2
      else
        f_Text_lastTogether_L18 G n x3 (wr (x3 + 1))
theorem s_Text_lastTogether_L18 {X : XT} {G : GS} {r : Int} : ∀ (n : Nat) {x2 : Int} {x3 : Int}, wr x2 = x2 → wr x3 = x3 → f_Text_lastTogether_L18 G n x2 x3 = some r → J X true 7 0 0 M_Text_lastTogether (Ri r G) NC 0 0 18 [(0, rf X 15), (2, vi x2), (3, vi x3)] [] G := by
  intro n
  induction n with
  | zero =>
    intro x2 x3 hx2 hx3 h
    exact none_some h
  | succ n ih =>
    intro x2 x3 hx2 hx3 h
    rw [f_Text_lastTogether_L18] at h
    refine j_iloadn (k := 2) (D_Text_lastTogether 12 rfl) rfl rfl ?_
    refine j_aloadn (k := 0) (D_Text_lastTogether 13 rfl) rfl rfl ?_
    refine j_getI rfl fa_Text_44 kd_15 lc_15 (by decide) rfl (D_Text_lastTogether 14 rfl) ?_
    refine j_ic_ge (tgt := 46) (D_Text_lastTogether 15 rfl) rfl (hx3) (wr_gi _ _ _) (fun c1 => ?_) (fun c1 => ?_)
    · replace h := ite_t h c1
      refine j_goto (tgt := 93) (D_Text_lastTogether 26 rfl) rfl ?_
      refine j_iloadn (k := 1) (D_Text_lastTogether 51 rfl) rfl rfl ?_
      exact j_iret (D_Text_lastTogether 52 rfl) rfl (hx2) rfl rfl (leafIo h (wr_n (hx2)))
    · replace h := ite_f h c1
      refine j_aloadn (k := 0) (D_Text_lastTogether 16 rfl) rfl rfl ?_
      refine j_getR rfl fa_Text_11 kd_15 lc_15 (by decide) rfl fx_15_0 (by decide) (D_Text_lastTogether 17 rfl) ?_
      refine j_iloadn (k := 2) (D_Text_lastTogether 18 rfl) rfl rfl ?_
      have g1 := gd_c h
      replace h := gd_s h
      refine j_bald (NI := 800) (D_Text_lastTogether 19 rfl) kd_16 lc_16 (hx3) rfl g1.1 g1.2 ?_
      obtain ⟨q1, e1, h⟩ := Option.bind_eq_some_iff.mp h
      refine j_cSz (c_Text_isLetter (wr_gi _ _ _) e1) rfl lk_Text_70 sok_Text_isLetter (by decide) rfl rfl (Nat.le_of_ble_eq_true rfl) (D_Text_lastTogether 20 rfl) (fun w1 bw1 => ?_)
      refine j_if_eq (tgt := 46) (D_Text_lastTogether 21 rfl) rfl (w1) (fun c2 => ?_) (fun c2 => ?_)
      · replace h := ite_t h c2
        refine j_goto (tgt := 93) (D_Text_lastTogether 26 rfl) rfl ?_
        refine j_iloadn (k := 1) (D_Text_lastTogether 51 rfl) rfl rfl ?_
        exact j_iret (D_Text_lastTogether 52 rfl) rfl (hx2) rfl rfl (leafIo h (wr_n (hx2)))
      · replace h := ite_f h c2
        refine j_iloadn (k := 2) (D_Text_lastTogether 22 rfl) rfl rfl ?_
        refine j_istoren (L' := [(2, vi x3), (0, rf X 15), (3, vi x3)]) (D_Text_lastTogether 23 rfl) rfl (hx3) (by decide) rfl ?_
        refine j_iinc (k := 2) (L' := [(3, vi (wr (x3 + 1))), (2, vi x3), (0, rf X 15)]) (D_Text_lastTogether 24 rfl) rfl rfl (by decide) rfl ?_
        refine j_goto (tgt := 18) (D_Text_lastTogether 25 rfl) rfl ?_
        refine j_loc [2, 1, 0] rfl ?_
        exact ih (hx3) (wr_wr _) h
def f_Text_lastTogether (G : GS) (a1 : Int) : Option (Int) :=
  gd (0 ≤ a1 ∧ a1 < 800) <|
  (f_Text_isLetter G (gi G 16 a1.toNat)).bind fun q1 =>
  if q1 = 0 then
    gd (0 ≤ a1 ∧ a1 < 800) <|
    (f_Text_isDigit G (gi G 16 a1.toNat)).bind fun q2 =>
    if q2 = 0 then
      some a1
    else
      f_Text_lastTogether_L65 G FU a1 (wr (a1 + 1))
  else
    f_Text_lastTogether_L18 G FU a1 (wr (a1 + 1))
theorem c_Text_lastTogether {X : XT} {G : GS} {a1 : Int} {r : Int} (ha1 : wr a1 = a1) (h : f_Text_lastTogether G a1 = some r) : Call X true 7 0 0 M_Text_lastTogether [rf X 15, vi a1] NC G (Ri r G) := by
  refine Call_of_J cw_Text_lastTogether (by decide +kernel) (Nat.le_of_ble_eq_true rfl) ?_
  unfold f_Text_lastTogether at h
  show J X true 7 0 0 M_Text_lastTogether (Ri r G) NC 0 0 0 [(0, rf X 15), (1, vi a1)] [] G
  refine j_iloadn (k := 1) (D_Text_lastTogether 0 rfl) rfl rfl ?_
  refine j_istoren (L' := [(2, vi a1), (0, rf X 15), (1, vi a1)]) (D_Text_lastTogether 1 rfl) rfl (ha1) (by decide) rfl ?_
  refine j_aloadn (k := 1) (D_Text_lastTogether 2 rfl) rfl rfl ?_
  refine j_getR rfl fa_Text_11 kd_15 lc_15 (by decide) rfl fx_15_0 (by decide) (D_Text_lastTogether 3 rfl) ?_
  refine j_iloadn (k := 2) (D_Text_lastTogether 4 rfl) rfl rfl ?_
  have g1 := gd_c h
  replace h := gd_s h
  refine j_bald (NI := 800) (D_Text_lastTogether 5 rfl) kd_16 lc_16 (ha1) rfl g1.1 g1.2 ?_
  obtain ⟨q1, e1, h⟩ := Option.bind_eq_some_iff.mp h
  refine j_cSz (c_Text_isLetter (wr_gi _ _ _) e1) rfl lk_Text_70 sok_Text_isLetter (by decide) rfl rfl (Nat.le_of_ble_eq_true rfl) (D_Text_lastTogether 6 rfl) (fun w1 bw1 => ?_)
  refine j_if_eq (tgt := 49) (D_Text_lastTogether 7 rfl) rfl (w1) (fun c1 => ?_) (fun c1 => ?_)
  · replace h := ite_t h c1
    refine j_aloadn (k := 1) (D_Text_lastTogether 27 rfl) rfl rfl ?_
    refine j_getR rfl fa_Text_11 kd_15 lc_15 (by decide) rfl fx_15_0 (by decide) (D_Text_lastTogether 28 rfl) ?_
    refine j_iloadn (k := 2) (D_Text_lastTogether 29 rfl) rfl rfl ?_
    have g2 := gd_c h
    replace h := gd_s h
    refine j_bald (NI := 800) (D_Text_lastTogether 30 rfl) kd_16 lc_16 (ha1) rfl g2.1 g2.2 ?_
    obtain ⟨q2, e2, h⟩ := Option.bind_eq_some_iff.mp h
    refine j_cSz (c_Text_isDigit (wr_gi _ _ _) e2) rfl lk_Text_74 sok_Text_isDigit (by decide) rfl rfl (Nat.le_of_ble_eq_true rfl) (D_Text_lastTogether 31 rfl) (fun w2 bw2 => ?_)
    refine j_if_eq (tgt := 93) (D_Text_lastTogether 32 rfl) rfl (w2) (fun c2 => ?_) (fun c2 => ?_)
    · replace h := ite_t h c2
      refine j_iloadn (k := 0) (D_Text_lastTogether 51 rfl) rfl rfl ?_
      exact j_iret (D_Text_lastTogether 52 rfl) rfl (ha1) rfl rfl (leafIo h (wr_n (ha1)))
    · replace h := ite_f h c2
      refine j_iloadn (k := 2) (D_Text_lastTogether 33 rfl) rfl rfl ?_
      refine j_iconst (v := 1) (D_Text_lastTogether 34 rfl) rfl ?_
      refine j_iadd (D_Text_lastTogether 35 rfl) ?_
      refine j_istoren (L' := [(3, vi (wr (a1 + 1))), (2, vi a1), (0, rf X 15), (1, vi a1)]) (D_Text_lastTogether 36 rfl) rfl (rfl) (by decide) rfl ?_
      refine j_loc [2, 1, 0] rfl ?_
      exact s_Text_lastTogether_L65 FU (ha1) (wr_wr _) h
  · replace h := ite_f h c1
    refine j_iloadn (k := 2) (D_Text_lastTogether 8 rfl) rfl rfl ?_
    refine j_iconst (v := 1) (D_Text_lastTogether 9 rfl) rfl ?_
    refine j_iadd (D_Text_lastTogether 10 rfl) ?_
    refine j_istoren (L' := [(3, vi (wr (a1 + 1))), (2, vi a1), (0, rf X 15), (1, vi a1)]) (D_Text_lastTogether 11 rfl) rfl (rfl) (by decide) rfl ?_
    refine j_loc [2, 1, 0] rfl ?_
    exact s_Text_lastTogether_L18 FU (ha1) (wr_wr _) h
abbrev M_Text_isWord : MI := (⟨"InquestHall$Text", "isWord", "(III)Z"⟩, prog_12_method_12_code, 6, (some .boolean))
theorem cw_Text_isWord : Cond.code M_Text_isWord.1 M_Text_isWord.2.1 M_Text_isWord.2.2.1 M_Text_isWord.2.2.2 ∈ TS := mTS (List.mem_of_getElem? (i := 768) (by decide +kernel)) (by decide +kernel)
theorem fa_Text_15 : FA "InquestHall$Text" 15 3 2 true (.array .int) := ⟨_, _, _, _, ok_Text, by decide, mTS (List.mem_of_getElem? (i := 295) (by decide +kernel)) (by decide +kernel), rfl, rfl⟩
theorem fx_15_2 {G : GS} (w : WF true NC G) : G.2.2 15 2 = 17 := w.2 rfl (15, 2, 17) (by decide)
theorem kd_17 : kd 17 = (0, 37) := rfl
theorem lc_17 : 17 < NC := by decide
theorem lk_Text_40 : Cond.methodLink "InquestHall$Text" 40 M_String_charAt.1 ∈ TS := mTS (List.mem_of_getElem? (i := 254) (by decide +kernel)) (by decide +kernel)
def tb_Text_isWord : List (Nat × Instr × Nat) := [(0, .aload_n 0, 1), (1, .getfield 15, 3), (4, .iload_n 1, 1), (5, .iaload, 1), (6, .istore 4, 2), (8, .aload_n 0, 1), (9, .getfield 15, 3), (12, .iload_n 1, 1), (13, .iconst 1, 1), (14, .iadd, 1), (15, .iaload, 1), (16, .iload 4, 2), (18, .isub, 1), (19, .iconst 1, 1), (20, .isub, 1), (21, .iload_n 3, 1), (22, .iload_n 2, 1), (23, .isub, 1), (24, .iconst 1, 1), (25, .iadd, 1), (26, .if_icmp .eq 5, 3), (29, .iconst 0, 1), (30, .ireturn, 1), (31, .iload_n 2, 1), (32, .istore 5, 2), (34, .iload 5, 2), (36, .iload_n 3, 1), (37, .if_icmp .gt 33, 3), (40, .ldc 32, 2), (42, .iload 4, 2), (44, .iload 5, 2), (46, .iadd, 1), (47, .iload_n 2, 1), (48, .isub, 1), (49, .invokevirtual 40, 3), (52, .aload_n 0, 1), (53, .getfield 11, 3), (56, .iload 5, 2), (58, .baload, 1), (59, .if_icmp .eq 5, 3), (62, .iconst 0, 1), (63, .ireturn, 1), (64, .iinc 5 1, 3), (67, .goto (-33), 3), (70, .iconst 1, 1), (71, .ireturn, 1)]
theorem D_Text_isWord (i : Nat) {pc len : Nat} {ins : Instr} (hi : tb_Text_isWord[i]? = some (pc, ins, len)) : decode M_Text_isWord.2.1 pc = .ok (ins, len) := dec_of (by decide +kernel) i hi
def f_Text_isWord_L34 (G : GS) : Nat → Int → Int → Int → Int → Option (Int)
  | 0, _, _, _, _ => none
  | n + 1, x2, x3, x4, x5 =>
    if x3 < x5 then
      some 1
    else
      gd (0 ≤ wr ((x4 + x5) - x2) ∧ wr ((x4 + x5) - x2) < lenI 0) <|
      gd (0 ≤ x5 ∧ x5 < 800) <|
      if chS 0 (wr ((x4 + x5) - x2)).toNat = gi G 16 x5.toNat then
        f_Text_isWord_L34 G n x2 x3 x4 (wr (x5 + 1))
      else
        some 0
theorem s_Text_isWord_L34 {X : XT} {G : GS} {r : Int} : ∀ (n : Nat) {x2 : Int} {x3 : Int} {x4 : Int} {x5 : Int}, wr x2 = x2 → wr x3 = x3 → wr x4 = x4 → wr x5 = x5 → f_Text_isWord_L34 G n x2 x3 x4 x5 = some r → J X true 9 0 0 M_Text_isWord (Rz r G) NC 0 0 34 [(0, rf X 15), (2, vi x2), (3, vi x3), (4, vi x4), (5, vi x5)] [] G := by
  intro n
  induction n with
  | zero =>
    intro x2 x3 x4 x5 hx2 hx3 hx4 hx5 h
    exact none_some h
  | succ n ih =>
    intro x2 x3 x4 x5 hx2 hx3 hx4 hx5 h
    rw [f_Text_isWord_L34] at h
    refine j_iload (k := 4) (D_Text_isWord 25 rfl) rfl ?_
    refine j_iloadn (k := 2) (D_Text_isWord 26 rfl) rfl rfl ?_
    refine j_ic_gt (tgt := 70) (D_Text_isWord 27 rfl) rfl (hx5) (hx3) (fun c1 => ?_) (fun c1 => ?_)
    · replace h := ite_t h c1
      refine j_iconst (v := 1) (D_Text_isWord 44 rfl) rfl ?_
      exact j_zret (D_Text_isWord 45 rfl) rfl (wr_lit rfl) (nz_01 (by decide)) rfl rfl (leafZo h (wr_n (wr_lit rfl)) (by decide))
    · replace h := ite_f h c1
      refine j_ldcS (i := 0) rfl rfl (D_Text_isWord 28 rfl) ?_
      refine j_iload (k := 3) (D_Text_isWord 29 rfl) rfl ?_
      refine j_iload (k := 4) (D_Text_isWord 30 rfl) rfl ?_
      refine j_iadd (D_Text_isWord 31 rfl) ?_
      refine j_iloadn (k := 1) (D_Text_isWord 32 rfl) rfl rfl ?_
      refine j_isub (D_Text_isWord 33 rfl) ?_
      refine j_top0 (rfl) ?_
      have g1 := gd_c h
      replace h := gd_s h
      refine j_cKi (c_String_charAt (by decide) (wr_wr _) g1.1 g1.2) rfl lk_Text_40 mok_String_charAt (by decide) (by decide) rfl rfl (Nat.le_of_ble_eq_true rfl) (D_Text_isWord 34 rfl) (fun _ => ?_)
      refine j_aloadn (k := 0) (D_Text_isWord 35 rfl) rfl rfl ?_
      refine j_getR rfl fa_Text_11 kd_15 lc_15 (by decide) rfl fx_15_0 (by decide) (D_Text_isWord 36 rfl) ?_
      refine j_iload (k := 4) (D_Text_isWord 37 rfl) rfl ?_
      have g2 := gd_c h
      replace h := gd_s h
      refine j_bald (NI := 800) (D_Text_isWord 38 rfl) kd_16 lc_16 (hx5) rfl g2.1 g2.2 ?_
      refine j_ic_eq (tgt := 64) (D_Text_isWord 39 rfl) rfl (wr_chS _ _) (wr_gi _ _ _) (fun c2 => ?_) (fun c2 => ?_)
      · replace h := ite_t h c2
        refine j_iinc (k := 4) (L' := [(5, vi (wr (x5 + 1))), (0, rf X 15), (2, vi x2), (3, vi x3), (4, vi x4)]) (D_Text_isWord 42 rfl) rfl rfl (by decide) rfl ?_
        refine j_goto (tgt := 34) (D_Text_isWord 43 rfl) rfl ?_
        refine j_loc [1, 2, 3, 4, 0] rfl ?_
        exact ih (hx2) (hx3) (hx4) (wr_wr _) h
      · replace h := ite_f h c2
        refine j_iconst (v := 0) (D_Text_isWord 40 rfl) rfl ?_
        exact j_zret (D_Text_isWord 41 rfl) rfl (wr_lit rfl) (nz_01 (by decide)) rfl rfl (leafZo h (wr_n (wr_lit rfl)) (by decide))
def f_Text_isWord (G : GS) (a1 : Int) (a2 : Int) (a3 : Int) : Option (Int) :=
  gd (0 ≤ a1 ∧ a1 < 37) <|
  gd (0 ≤ wr (a1 + 1) ∧ wr (a1 + 1) < 37) <|
  if wr (((gi G 17 (wr (a1 + 1)).toNat) - (gi G 17 a1.toNat)) - 1) = wr ((a3 - a2) + 1) then
    f_Text_isWord_L34 G FU a2 a3 (gi G 17 a1.toNat) a2
  else
    some 0
theorem c_Text_isWord {X : XT} {G : GS} {a1 : Int} {a2 : Int} {a3 : Int} {r : Int} (ha1 : wr a1 = a1) (ha2 : wr a2 = a2) (ha3 : wr a3 = a3) (h : f_Text_isWord G a1 a2 a3 = some r) : Call X true 9 0 0 M_Text_isWord [rf X 15, vi a1, vi a2, vi a3] NC G (Rz r G) := by
  refine Call_of_J cw_Text_isWord (by decide +kernel) (Nat.le_of_ble_eq_true rfl) ?_
  unfold f_Text_isWord at h
  show J X true 9 0 0 M_Text_isWord (Rz r G) NC 0 0 0 [(0, rf X 15), (1, vi a1), (2, vi a2), (3, vi a3)] [] G
  refine j_aloadn (k := 0) (D_Text_isWord 0 rfl) rfl rfl ?_
  refine j_getR rfl fa_Text_15 kd_15 lc_15 (by decide) rfl fx_15_2 (by decide) (D_Text_isWord 1 rfl) ?_
  refine j_iloadn (k := 1) (D_Text_isWord 2 rfl) rfl rfl ?_
  have g1 := gd_c h
  replace h := gd_s h
  refine j_iald (NI := 37) (D_Text_isWord 3 rfl) kd_17 lc_17 (ha1) rfl g1.1 g1.2 ?_
  refine j_istore (L' := [(4, vi (gi G 17 a1.toNat)), (0, rf X 15), (1, vi a1), (2, vi a2), (3, vi a3)]) (D_Text_isWord 4 rfl) (wr_gi _ _ _) (by decide) rfl ?_
  refine j_aloadn (k := 1) (D_Text_isWord 5 rfl) rfl rfl ?_
  refine j_getR rfl fa_Text_15 kd_15 lc_15 (by decide) rfl fx_15_2 (by decide) (D_Text_isWord 6 rfl) ?_
  refine j_iloadn (k := 2) (D_Text_isWord 7 rfl) rfl rfl ?_
  refine j_iconst (v := 1) (D_Text_isWord 8 rfl) rfl ?_
  refine j_iadd (D_Text_isWord 9 rfl) ?_
  have g2 := gd_c h
  replace h := gd_s h
  refine j_iald (NI := 37) (D_Text_isWord 10 rfl) kd_17 lc_17 (rfl) rfl g2.1 g2.2 ?_
  refine j_iload (k := 0) (D_Text_isWord 11 rfl) rfl ?_
  refine j_isub (D_Text_isWord 12 rfl) ?_
  refine j_iconst (v := 1) (D_Text_isWord 13 rfl) rfl ?_
  refine j_isub (D_Text_isWord 14 rfl) ?_
  refine j_iloadn (k := 4) (D_Text_isWord 15 rfl) rfl rfl ?_
  refine j_iloadn (k := 3) (D_Text_isWord 16 rfl) rfl rfl ?_
  refine j_isub (D_Text_isWord 17 rfl) ?_
  refine j_iconst (v := 1) (D_Text_isWord 18 rfl) rfl ?_
  refine j_iadd (D_Text_isWord 19 rfl) ?_
  refine j_ic_eq (tgt := 31) (D_Text_isWord 20 rfl) rfl (rfl) (rfl) (fun c1 => ?_) (fun c1 => ?_)
  · replace h := ite_t h c1
    refine j_iloadn (k := 3) (D_Text_isWord 23 rfl) rfl rfl ?_
    refine j_istore (L' := [(5, vi a2), (4, vi (gi G 17 a1.toNat)), (0, rf X 15), (1, vi a1), (2, vi a2), (3, vi a3)]) (D_Text_isWord 24 rfl) (ha2) (by decide) rfl ?_
    refine j_loc [2, 4, 5, 1, 0] rfl ?_
    exact s_Text_isWord_L34 FU (ha2) (ha3) (wr_gi _ _ _) (ha2) h
  · replace h := ite_f h c1
    refine j_iconst (v := 0) (D_Text_isWord 21 rfl) rfl ?_
    exact j_zret (D_Text_isWord 22 rfl) rfl (wr_lit rfl) (nz_01 (by decide)) rfl rfl (leafZo h (wr_n (wr_lit rfl)) (by decide))
abbrev M_Text_wordKind : MI := (⟨"InquestHall$Text", "wordKind", "(II)I"⟩, prog_12_method_11_code, 4, (some .int))
theorem cw_Text_wordKind : Cond.code M_Text_wordKind.1 M_Text_wordKind.2.1 M_Text_wordKind.2.2.1 M_Text_wordKind.2.2.2 ∈ TS := mTS (List.mem_of_getElem? (i := 764) (by decide +kernel)) (by decide +kernel)
theorem lk_Text_83 : Cond.methodLink "InquestHall$Text" 83 M_Text_isWord.1 ∈ TS := mTS (List.mem_of_getElem? (i := 765) (by decide +kernel)) (by decide +kernel)
theorem mok_Text_isWord : MOK M_Text_isWord 3 := ⟨mTS (List.mem_of_getElem? (i := 767) (by decide +kernel)) (by decide +kernel), mTS (List.mem_of_getElem? (i := 4) (by decide +kernel)) (by decide +kernel), mTS (List.mem_of_getElem? (i := 125) (by decide +kernel)) (by decide +kernel), cw_Text_isWord, ⟨by decide, by decide, by decide +kernel⟩, by decide +kernel, by decide⟩
def tb_Text_wordKind : List (Nat × Instr × Nat) := [(0, .iconst 0, 1), (1, .istore_n 3, 1), (2, .iload_n 3, 1), (3, .bipush 36, 2), (5, .if_icmp .ge 24, 3), (8, .aload_n 0, 1), (9, .iload_n 3, 1), (10, .iload_n 1, 1), (11, .iload_n 2, 1), (12, .invokevirtual 83, 3), (15, .ifCond .eq 8, 3), (18, .bipush 100, 2), (20, .iload_n 3, 1), (21, .iadd, 1), (22, .ireturn, 1), (23, .iinc 3 1, 3), (26, .goto (-24), 3), (29, .iconst 1, 1), (30, .ireturn, 1)]
theorem D_Text_wordKind (i : Nat) {pc len : Nat} {ins : Instr} (hi : tb_Text_wordKind[i]? = some (pc, ins, len)) : decode M_Text_wordKind.2.1 pc = .ok (ins, len) := dec_of (by decide +kernel) i hi
def f_Text_wordKind_L2 (G : GS) : Nat → Int → Int → Int → Option (Int)
  | 0, _, _, _ => none
  | n + 1, x1, x2, x3 =>
    if 36 ≤ x3 then
      some 1
    else
      (f_Text_isWord G x3 x1 x2).bind fun q1 =>
      if q1 = 0 then
        f_Text_wordKind_L2 G n x1 x2 (wr (x3 + 1))
      else
        some (wr (100 + x3))
theorem s_Text_wordKind_L2 {X : XT} {G : GS} {r : Int} : ∀ (n : Nat) {x1 : Int} {x2 : Int} {x3 : Int}, wr x1 = x1 → wr x2 = x2 → wr x3 = x3 → f_Text_wordKind_L2 G n x1 x2 x3 = some r → J X true 10 0 0 M_Text_wordKind (Ri r G) NC 0 0 2 [(0, rf X 15), (1, vi x1), (2, vi x2), (3, vi x3)] [] G := by
  intro n
  induction n with
  | zero =>
    intro x1 x2 x3 hx1 hx2 hx3 h
    exact none_some h
  | succ n ih =>
    intro x1 x2 x3 hx1 hx2 hx3 h
    rw [f_Text_wordKind_L2] at h
    refine j_iloadn (k := 3) (D_Text_wordKind 2 rfl) rfl rfl ?_
    refine j_bipush (v := 36) (D_Text_wordKind 3 rfl) rfl ?_
    refine j_ic_ge (tgt := 29) (D_Text_wordKind 4 rfl) rfl (hx3) (wr_lit rfl) (fun c1 => ?_) (fun c1 => ?_)
    · replace h := ite_t h c1
      refine j_iconst (v := 1) (D_Text_wordKind 17 rfl) rfl ?_
      exact j_iret (D_Text_wordKind 18 rfl) rfl (wr_lit rfl) rfl rfl (leafIo h (wr_n (wr_lit rfl)))
    · replace h := ite_f h c1
      refine j_aloadn (k := 0) (D_Text_wordKind 5 rfl) rfl rfl ?_
      refine j_iloadn (k := 3) (D_Text_wordKind 6 rfl) rfl rfl ?_
      refine j_iloadn (k := 1) (D_Text_wordKind 7 rfl) rfl rfl ?_
      refine j_iloadn (k := 2) (D_Text_wordKind 8 rfl) rfl rfl ?_
      obtain ⟨q1, e1, h⟩ := Option.bind_eq_some_iff.mp h
      refine j_cVz (c_Text_isWord (hx3) (hx1) (hx2) e1) rfl lk_Text_83 mok_Text_isWord kd_15 lc_15 rfl (by decide) rfl rfl (Nat.le_of_ble_eq_true rfl) (D_Text_wordKind 9 rfl) (fun w1 bw1 => ?_)
      refine j_if_eq (tgt := 23) (D_Text_wordKind 10 rfl) rfl (w1) (fun c2 => ?_) (fun c2 => ?_)
      · replace h := ite_t h c2
        refine j_iinc (k := 3) (L' := [(3, vi (wr (x3 + 1))), (0, rf X 15), (1, vi x1), (2, vi x2)]) (D_Text_wordKind 15 rfl) rfl rfl (by decide) rfl ?_
        refine j_goto (tgt := 2) (D_Text_wordKind 16 rfl) rfl ?_
        refine j_loc [1, 2, 3, 0] rfl ?_
        exact ih (hx1) (hx2) (wr_wr _) h
      · replace h := ite_f h c2
        refine j_bipush (v := 100) (D_Text_wordKind 11 rfl) rfl ?_
        refine j_iloadn (k := 3) (D_Text_wordKind 12 rfl) rfl rfl ?_
        refine j_iadd (D_Text_wordKind 13 rfl) ?_
        exact j_iret (D_Text_wordKind 14 rfl) rfl (rfl) rfl rfl (leafIo h (wr_n (rfl)))
def f_Text_wordKind (G : GS) (a1 : Int) (a2 : Int) : Option (Int) :=
  f_Text_wordKind_L2 G FU a1 a2 0
theorem c_Text_wordKind {X : XT} {G : GS} {a1 : Int} {a2 : Int} {r : Int} (ha1 : wr a1 = a1) (ha2 : wr a2 = a2) (h : f_Text_wordKind G a1 a2 = some r) : Call X true 10 0 0 M_Text_wordKind [rf X 15, vi a1, vi a2] NC G (Ri r G) := by
  refine Call_of_J cw_Text_wordKind (by decide +kernel) (Nat.le_of_ble_eq_true rfl) ?_
  unfold f_Text_wordKind at h
  show J X true 10 0 0 M_Text_wordKind (Ri r G) NC 0 0 0 [(0, rf X 15), (1, vi a1), (2, vi a2)] [] G
  refine j_iconst (v := 0) (D_Text_wordKind 0 rfl) rfl ?_
  refine j_istoren (L' := [(3, vi 0), (0, rf X 15), (1, vi a1), (2, vi a2)]) (D_Text_wordKind 1 rfl) rfl (wr_lit rfl) (by decide) rfl ?_
  refine j_loc [1, 2, 3, 0] rfl ?_
  exact s_Text_wordKind_L2 FU (ha1) (ha2) (wr_lit rfl) h
abbrev M_Text_isSign : MI := (⟨"InquestHall$Text", "isSign", "(I)Z"⟩, prog_12_method_7_code, 1, (some .boolean))
theorem cw_Text_isSign : Cond.code M_Text_isSign.1 M_Text_isSign.2.1 M_Text_isSign.2.2.1 M_Text_isSign.2.2.2 ∈ TS := mTS (List.mem_of_getElem? (i := 771) (by decide +kernel)) (by decide +kernel)
def tb_Text_isSign : List (Nat × Instr × Nat) := [(0, .iload_n 0, 1), (1, .bipush 40, 2), (3, .if_icmp .lt 9, 3), (6, .iload_n 0, 1), (7, .bipush 43, 2), (9, .if_icmp .le 27, 3), (12, .iload_n 0, 1), (13, .bipush 45, 2), (15, .if_icmp .eq 21, 3), (18, .iload_n 0, 1), (19, .bipush 47, 2), (21, .if_icmp .eq 15, 3), (24, .iload_n 0, 1), (25, .bipush 59, 2), (27, .if_icmp .lt 13, 3), (30, .iload_n 0, 1), (31, .bipush 62, 2), (33, .if_icmp .gt 7, 3), (36, .iconst 1, 1), (37, .goto 4, 3), (40, .iconst 0, 1), (41, .ireturn, 1)]
theorem D_Text_isSign (i : Nat) {pc len : Nat} {ins : Instr} (hi : tb_Text_isSign[i]? = some (pc, ins, len)) : decode M_Text_isSign.2.1 pc = .ok (ins, len) := dec_of (by decide +kernel) i hi
def f_Text_isSign_L12 (G : GS) (x0 : Int) : Option (Int) :=
  if x0 = 45 then
    some 1
  else
    if x0 = 47 then
      some 1
    else
      if x0 < 59 then
        some 0
      else
        if 62 < x0 then
          some 0
        else
          some 1
theorem s_Text_isSign_L12 {X : XT} {G : GS} {r : Int} : ∀ {x0 : Int}, wr x0 = x0 → f_Text_isSign_L12 G x0 = some r → J X true 6 0 0 M_Text_isSign (Rz r G) NC 0 0 12 [(0, vi x0)] [] G := by
  intro x0 hx0 h
  unfold f_Text_isSign_L12 at h
  refine j_iloadn (k := 0) (D_Text_isSign 6 rfl) rfl rfl ?_
  refine j_bipush (v := 45) (D_Text_isSign 7 rfl) rfl ?_
  refine j_ic_eq (tgt := 36) (D_Text_isSign 8 rfl) rfl (hx0) (wr_lit rfl) (fun c1 => ?_) (fun c1 => ?_)
  · replace h := ite_t h c1
    refine j_iconst (v := 1) (D_Text_isSign 18 rfl) rfl ?_
    refine j_goto (tgt := 41) (D_Text_isSign 19 rfl) rfl ?_
    exact j_zret (D_Text_isSign 21 rfl) rfl (wr_lit rfl) (nz_01 (by decide)) rfl rfl (leafZo h (wr_n (wr_lit rfl)) (by decide))
  · replace h := ite_f h c1
    refine j_iloadn (k := 0) (D_Text_isSign 9 rfl) rfl rfl ?_
    refine j_bipush (v := 47) (D_Text_isSign 10 rfl) rfl ?_
    refine j_ic_eq (tgt := 36) (D_Text_isSign 11 rfl) rfl (hx0) (wr_lit rfl) (fun c2 => ?_) (fun c2 => ?_)
    · replace h := ite_t h c2
      refine j_iconst (v := 1) (D_Text_isSign 18 rfl) rfl ?_
      refine j_goto (tgt := 41) (D_Text_isSign 19 rfl) rfl ?_
      exact j_zret (D_Text_isSign 21 rfl) rfl (wr_lit rfl) (nz_01 (by decide)) rfl rfl (leafZo h (wr_n (wr_lit rfl)) (by decide))
    · replace h := ite_f h c2
      refine j_iloadn (k := 0) (D_Text_isSign 12 rfl) rfl rfl ?_
      refine j_bipush (v := 59) (D_Text_isSign 13 rfl) rfl ?_
      refine j_ic_lt (tgt := 40) (D_Text_isSign 14 rfl) rfl (hx0) (wr_lit rfl) (fun c3 => ?_) (fun c3 => ?_)
      · replace h := ite_t h c3
        refine j_iconst (v := 0) (D_Text_isSign 20 rfl) rfl ?_
        exact j_zret (D_Text_isSign 21 rfl) rfl (wr_lit rfl) (nz_01 (by decide)) rfl rfl (leafZo h (wr_n (wr_lit rfl)) (by decide))
      · replace h := ite_f h c3
        refine j_iloadn (k := 0) (D_Text_isSign 15 rfl) rfl rfl ?_
        refine j_bipush (v := 62) (D_Text_isSign 16 rfl) rfl ?_
        refine j_ic_gt (tgt := 40) (D_Text_isSign 17 rfl) rfl (hx0) (wr_lit rfl) (fun c4 => ?_) (fun c4 => ?_)
        · replace h := ite_t h c4
          refine j_iconst (v := 0) (D_Text_isSign 20 rfl) rfl ?_
          exact j_zret (D_Text_isSign 21 rfl) rfl (wr_lit rfl) (nz_01 (by decide)) rfl rfl (leafZo h (wr_n (wr_lit rfl)) (by decide))
        · replace h := ite_f h c4
          refine j_iconst (v := 1) (D_Text_isSign 18 rfl) rfl ?_
          refine j_goto (tgt := 41) (D_Text_isSign 19 rfl) rfl ?_
          exact j_zret (D_Text_isSign 21 rfl) rfl (wr_lit rfl) (nz_01 (by decide)) rfl rfl (leafZo h (wr_n (wr_lit rfl)) (by decide))
def f_Text_isSign (G : GS) (a0 : Int) : Option (Int) :=
  if a0 < 40 then
    f_Text_isSign_L12 G a0
  else
    if a0 ≤ 43 then
      some 1
    else
      f_Text_isSign_L12 G a0
theorem c_Text_isSign {X : XT} {G : GS} {a0 : Int} {r : Int} (ha0 : wr a0 = a0) (h : f_Text_isSign G a0 = some r) : Call X true 6 0 0 M_Text_isSign [vi a0] NC G (Rz r G) := by
  refine Call_of_J cw_Text_isSign (by decide +kernel) (Nat.le_of_ble_eq_true rfl) ?_
  unfold f_Text_isSign at h
  show J X true 6 0 0 M_Text_isSign (Rz r G) NC 0 0 0 [(0, vi a0)] [] G
  refine j_iloadn (k := 0) (D_Text_isSign 0 rfl) rfl rfl ?_
  refine j_bipush (v := 40) (D_Text_isSign 1 rfl) rfl ?_
  refine j_ic_lt (tgt := 12) (D_Text_isSign 2 rfl) rfl (ha0) (wr_lit rfl) (fun c1 => ?_) (fun c1 => ?_)
  · replace h := ite_t h c1
    refine j_loc [0] rfl ?_
    exact s_Text_isSign_L12 (ha0) h
  · replace h := ite_f h c1
    refine j_iloadn (k := 0) (D_Text_isSign 3 rfl) rfl rfl ?_
    refine j_bipush (v := 43) (D_Text_isSign 4 rfl) rfl ?_
    refine j_ic_le (tgt := 36) (D_Text_isSign 5 rfl) rfl (ha0) (wr_lit rfl) (fun c2 => ?_) (fun c2 => ?_)
    · replace h := ite_t h c2
      refine j_iconst (v := 1) (D_Text_isSign 18 rfl) rfl ?_
      refine j_goto (tgt := 41) (D_Text_isSign 19 rfl) rfl ?_
      exact j_zret (D_Text_isSign 21 rfl) rfl (wr_lit rfl) (nz_01 (by decide)) rfl rfl (leafZo h (wr_n (wr_lit rfl)) (by decide))
    · replace h := ite_f h c2
      refine j_loc [0] rfl ?_
      exact s_Text_isSign_L12 (ha0) h
abbrev M_Text_kindOf : MI := (⟨"InquestHall$Text", "kindOf", "(II)I"⟩, prog_12_method_9_code, 4, (some .int))
theorem cw_Text_kindOf : Cond.code M_Text_kindOf.1 M_Text_kindOf.2.1 M_Text_kindOf.2.2.1 M_Text_kindOf.2.2.2 ∈ TS := mTS (List.mem_of_getElem? (i := 760) (by decide +kernel)) (by decide +kernel)
theorem lk_Text_80 : Cond.methodLink "InquestHall$Text" 80 M_Text_isSign.1 ∈ TS := mTS (List.mem_of_getElem? (i := 769) (by decide +kernel)) (by decide +kernel)
theorem sok_Text_isSign : SOK M_Text_isSign 1 := ⟨mTS (List.mem_of_getElem? (i := 770) (by decide +kernel)) (by decide +kernel), mTS (List.mem_of_getElem? (i := 125) (by decide +kernel)) (by decide +kernel), cw_Text_isSign, ⟨by decide, by decide, by decide +kernel⟩, by decide +kernel, by decide⟩
theorem lk_Text_77 : Cond.methodLink "InquestHall$Text" 77 M_Text_wordKind.1 ∈ TS := mTS (List.mem_of_getElem? (i := 761) (by decide +kernel)) (by decide +kernel)
theorem mok_Text_wordKind : MOK M_Text_wordKind 2 := ⟨mTS (List.mem_of_getElem? (i := 763) (by decide +kernel)) (by decide +kernel), mTS (List.mem_of_getElem? (i := 3) (by decide +kernel)) (by decide +kernel), mTS (List.mem_of_getElem? (i := 125) (by decide +kernel)) (by decide +kernel), cw_Text_wordKind, ⟨by decide, by decide, by decide +kernel⟩, by decide +kernel, by decide⟩
def tb_Text_kindOf : List (Nat × Instr × Nat) := [(0, .aload_n 0, 1), (1, .getfield 11, 3), (4, .iload_n 1, 1), (5, .baload, 1), (6, .istore_n 3, 1), (7, .iload_n 3, 1), (8, .invokestatic 70, 3), (11, .ifCond .eq 10, 3), (14, .aload_n 0, 1), (15, .iload_n 1, 1), (16, .iload_n 2, 1), (17, .invokevirtual 77, 3), (20, .ireturn, 1), (21, .iload_n 3, 1), (22, .invokestatic 74, 3), (25, .ifCond .eq 16, 3), (28, .iload_n 2, 1), (29, .iload_n 1, 1), (30, .isub, 1), (31, .iconst 5, 1), (32, .if_icmp .ge 7, 3), (35, .iconst 2, 1), (36, .goto 4, 3), (39, .iconst 1, 1), (40, .ireturn, 1), (41, .iload_n 3, 1), (42, .invokestatic 80, 3), (45, .ifCond .eq 7, 3), (48, .iload_n 3, 1), (49, .goto 4, 3), (52, .iconst 1, 1), (53, .ireturn, 1)]
theorem D_Text_kindOf (i : Nat) {pc len : Nat} {ins : Instr} (hi : tb_Text_kindOf[i]? = some (pc, ins, len)) : decode M_Text_kindOf.2.1 pc = .ok (ins, len) := dec_of (by decide +kernel) i hi
def f_Text_kindOf (G : GS) (a1 : Int) (a2 : Int) : Option (Int) :=
  gd (0 ≤ a1 ∧ a1 < 800) <|
  (f_Text_isLetter G (gi G 16 a1.toNat)).bind fun q1 =>
  if q1 = 0 then
    (f_Text_isDigit G (gi G 16 a1.toNat)).bind fun q2 =>
    if q2 = 0 then
      (f_Text_isSign G (gi G 16 a1.toNat)).bind fun q3 =>
      if q3 = 0 then
        some 1
      else
        some (gi G 16 a1.toNat)
    else
      if 5 ≤ wr (a2 - a1) then
        some 1
      else
        some 2
  else
    (f_Text_wordKind G a1 a2).bind fun q4 =>
    some q4
theorem c_Text_kindOf {X : XT} {G : GS} {a1 : Int} {a2 : Int} {r : Int} (ha1 : wr a1 = a1) (ha2 : wr a2 = a2) (h : f_Text_kindOf G a1 a2 = some r) : Call X true 11 0 0 M_Text_kindOf [rf X 15, vi a1, vi a2] NC G (Ri r G) := by
  refine Call_of_J cw_Text_kindOf (by decide +kernel) (Nat.le_of_ble_eq_true rfl) ?_
  unfold f_Text_kindOf at h
  show J X true 11 0 0 M_Text_kindOf (Ri r G) NC 0 0 0 [(0, rf X 15), (1, vi a1), (2, vi a2)] [] G
  refine j_aloadn (k := 0) (D_Text_kindOf 0 rfl) rfl rfl ?_
  refine j_getR rfl fa_Text_11 kd_15 lc_15 (by decide) rfl fx_15_0 (by decide) (D_Text_kindOf 1 rfl) ?_
  refine j_iloadn (k := 1) (D_Text_kindOf 2 rfl) rfl rfl ?_
  have g1 := gd_c h
  replace h := gd_s h
  refine j_bald (NI := 800) (D_Text_kindOf 3 rfl) kd_16 lc_16 (ha1) rfl g1.1 g1.2 ?_
  refine j_istoren (L' := [(3, vi (gi G 16 a1.toNat)), (0, rf X 15), (1, vi a1), (2, vi a2)]) (D_Text_kindOf 4 rfl) rfl (wr_gi _ _ _) (by decide) rfl ?_
  refine j_iloadn (k := 0) (D_Text_kindOf 5 rfl) rfl rfl ?_
  obtain ⟨q1, e1, h⟩ := Option.bind_eq_some_iff.mp h
  refine j_cSz (c_Text_isLetter (wr_gi _ _ _) e1) rfl lk_Text_70 sok_Text_isLetter (by decide) rfl rfl (Nat.le_of_ble_eq_true rfl) (D_Text_kindOf 6 rfl) (fun w1 bw1 => ?_)
  refine j_if_eq (tgt := 21) (D_Text_kindOf 7 rfl) rfl (w1) (fun c1 => ?_) (fun c1 => ?_)
  · replace h := ite_t h c1
    refine j_iloadn (k := 0) (D_Text_kindOf 13 rfl) rfl rfl ?_
    obtain ⟨q2, e2, h⟩ := Option.bind_eq_some_iff.mp h
    refine j_cSz (c_Text_isDigit (wr_gi _ _ _) e2) rfl lk_Text_74 sok_Text_isDigit (by decide) rfl rfl (Nat.le_of_ble_eq_true rfl) (D_Text_kindOf 14 rfl) (fun w2 bw2 => ?_)
    refine j_if_eq (tgt := 41) (D_Text_kindOf 15 rfl) rfl (w2) (fun c2 => ?_) (fun c2 => ?_)
    · replace h := ite_t h c2
      refine j_iloadn (k := 0) (D_Text_kindOf 25 rfl) rfl rfl ?_
      obtain ⟨q3, e3, h⟩ := Option.bind_eq_some_iff.mp h
      refine j_cSz (c_Text_isSign (wr_gi _ _ _) e3) rfl lk_Text_80 sok_Text_isSign (by decide) rfl rfl (Nat.le_of_ble_eq_true rfl) (D_Text_kindOf 26 rfl) (fun w3 bw3 => ?_)
      refine j_if_eq (tgt := 52) (D_Text_kindOf 27 rfl) rfl (w3) (fun c3 => ?_) (fun c3 => ?_)
      · replace h := ite_t h c3
        refine j_iconst (v := 1) (D_Text_kindOf 30 rfl) rfl ?_
        exact j_iret (D_Text_kindOf 31 rfl) rfl (wr_lit rfl) rfl rfl (leafIo h (wr_n (wr_lit rfl)))
      · replace h := ite_f h c3
        refine j_iloadn (k := 0) (D_Text_kindOf 28 rfl) rfl rfl ?_
        refine j_goto (tgt := 53) (D_Text_kindOf 29 rfl) rfl ?_
        exact j_iret (D_Text_kindOf 31 rfl) rfl (wr_gi _ _ _) rfl rfl (leafIo h (wr_n (wr_gi _ _ _)))
    · replace h := ite_f h c2
      refine j_iloadn (k := 3) (D_Text_kindOf 16 rfl) rfl rfl ?_
      refine j_iloadn (k := 2) (D_Text_kindOf 17 rfl) rfl rfl ?_
      refine j_isub (D_Text_kindOf 18 rfl) ?_
      refine j_iconst (v := 5) (D_Text_kindOf 19 rfl) rfl ?_
      refine j_ic_ge (tgt := 39) (D_Text_kindOf 20 rfl) rfl (rfl) (wr_lit rfl) (fun c4 => ?_) (fun c4 => ?_)
      · replace h := ite_t h c4
        refine j_iconst (v := 1) (D_Text_kindOf 23 rfl) rfl ?_
        exact j_iret (D_Text_kindOf 24 rfl) rfl (wr_lit rfl) rfl rfl (leafIo h (wr_n (wr_lit rfl)))
      · replace h := ite_f h c4
        refine j_iconst (v := 2) (D_Text_kindOf 21 rfl) rfl ?_
        refine j_goto (tgt := 40) (D_Text_kindOf 22 rfl) rfl ?_
        exact j_iret (D_Text_kindOf 24 rfl) rfl (wr_lit rfl) rfl rfl (leafIo h (wr_n (wr_lit rfl)))
  · replace h := ite_f h c1
    refine j_aloadn (k := 1) (D_Text_kindOf 8 rfl) rfl rfl ?_
    refine j_iloadn (k := 2) (D_Text_kindOf 9 rfl) rfl rfl ?_
    refine j_iloadn (k := 3) (D_Text_kindOf 10 rfl) rfl rfl ?_
    obtain ⟨q4, e4, h⟩ := Option.bind_eq_some_iff.mp h
    refine j_cVi (c_Text_wordKind (ha1) (ha2) e4) rfl lk_Text_77 mok_Text_wordKind kd_15 lc_15 rfl (by decide) rfl rfl (Nat.le_of_ble_eq_true rfl) (D_Text_kindOf 11 rfl) (fun w4 => ?_)
    exact j_iret (D_Text_kindOf 12 rfl) rfl (w4) rfl rfl (leafIo h (wr_n (w4)))
abbrev M_Text_numberOf : MI := (⟨"InquestHall$Text", "numberOf", "(II)I"⟩, prog_12_method_10_code, 5, (some .int))
theorem cw_Text_numberOf : Cond.code M_Text_numberOf.1 M_Text_numberOf.2.1 M_Text_numberOf.2.2.1 M_Text_numberOf.2.2.2 ∈ TS := mTS (List.mem_of_getElem? (i := 775) (by decide +kernel)) (by decide +kernel)
def tb_Text_numberOf : List (Nat × Instr × Nat) := [(0, .iconst 0, 1), (1, .istore_n 3, 1), (2, .aload_n 0, 1), (3, .getfield 11, 3), (6, .iload_n 1, 1), (7, .baload, 1), (8, .invokestatic 74, 3), (11, .ifCond .eq 41, 3), (14, .iload_n 2, 1), (15, .iload_n 1, 1), (16, .isub, 1), (17, .iconst 5, 1), (18, .if_icmp .ge 34, 3), (21, .iload_n 1, 1), (22, .istore 4, 2), (24, .iload 4, 2), (26, .iload_n 2, 1), (27, .if_icmp .gt 25, 3), (30, .bipush 10, 2), (32, .iload_n 3, 1), (33, .imul, 1), (34, .aload_n 0, 1), (35, .getfield 11, 3), (38, .iload 4, 2), (40, .baload, 1), (41, .iadd, 1), (42, .bipush 48, 2), (44, .isub, 1), (45, .istore_n 3, 1), (46, .iinc 4 1, 3), (49, .goto (-25), 3), (52, .iload_n 3, 1), (53, .ireturn, 1)]
theorem D_Text_numberOf (i : Nat) {pc len : Nat} {ins : Instr} (hi : tb_Text_numberOf[i]? = some (pc, ins, len)) : decode M_Text_numberOf.2.1 pc = .ok (ins, len) := dec_of (by decide +kernel) i hi
def f_Text_numberOf_L24 (G : GS) : Nat → Int → Int → Int → Option (Int)
  | 0, _, _, _ => none
  | n + 1, x2, x3, x4 =>
    if x2 < x4 then
      some x3
    else
      gd (0 ≤ x4 ∧ x4 < 800) <|
      f_Text_numberOf_L24 G n x2 (wr (((10 * x3) + (gi G 16 x4.toNat)) - 48)) (wr (x4 + 1))
theorem s_Text_numberOf_L24 {X : XT} {G : GS} {r : Int} : ∀ (n : Nat) {x2 : Int} {x3 : Int} {x4 : Int}, wr x2 = x2 → wr x3 = x3 → wr x4 = x4 → f_Text_numberOf_L24 G n x2 x3 x4 = some r → J X true 7 0 0 M_Text_numberOf (Ri r G) NC 0 0 24 [(0, rf X 15), (2, vi x2), (3, vi x3), (4, vi x4)] [] G := by
  intro n
  induction n with
  | zero =>
    intro x2 x3 x4 hx2 hx3 hx4 h
    exact none_some h
  | succ n ih =>
    intro x2 x3 x4 hx2 hx3 hx4 h
    rw [f_Text_numberOf_L24] at h
    refine j_iload (k := 3) (D_Text_numberOf 15 rfl) rfl ?_
    refine j_iloadn (k := 1) (D_Text_numberOf 16 rfl) rfl rfl ?_
    refine j_ic_gt (tgt := 52) (D_Text_numberOf 17 rfl) rfl (hx4) (hx2) (fun c1 => ?_) (fun c1 => ?_)
    · replace h := ite_t h c1
      refine j_iloadn (k := 2) (D_Text_numberOf 31 rfl) rfl rfl ?_
      exact j_iret (D_Text_numberOf 32 rfl) rfl (hx3) rfl rfl (leafIo h (wr_n (hx3)))
    · replace h := ite_f h c1
      refine j_bipush (v := 10) (D_Text_numberOf 18 rfl) rfl ?_
      refine j_iloadn (k := 2) (D_Text_numberOf 19 rfl) rfl rfl ?_
      refine j_imul (D_Text_numberOf 20 rfl) ?_
      refine j_aloadn (k := 0) (D_Text_numberOf 21 rfl) rfl rfl ?_
      refine j_getR rfl fa_Text_11 kd_15 lc_15 (by decide) rfl fx_15_0 (by decide) (D_Text_numberOf 22 rfl) ?_
      refine j_iload (k := 3) (D_Text_numberOf 23 rfl) rfl ?_
      have g1 := gd_c h
      replace h := gd_s h
      refine j_bald (NI := 800) (D_Text_numberOf 24 rfl) kd_16 lc_16 (hx4) rfl g1.1 g1.2 ?_
      refine j_iadd (D_Text_numberOf 25 rfl) ?_
      refine j_bipush (v := 48) (D_Text_numberOf 26 rfl) rfl ?_
      refine j_isub (D_Text_numberOf 27 rfl) ?_
      refine j_istoren (L' := [(3, vi (wr (((10 * x3) + (gi G 16 x4.toNat)) - 48))), (0, rf X 15), (2, vi x2), (4, vi x4)]) (D_Text_numberOf 28 rfl) rfl (rfl) (by decide) rfl ?_
      refine j_iinc (k := 3) (L' := [(4, vi (wr (x4 + 1))), (3, vi (wr (((10 * x3) + (gi G 16 x4.toNat)) - 48))), (0, rf X 15), (2, vi x2)]) (D_Text_numberOf 29 rfl) rfl rfl (by decide) rfl ?_
      refine j_goto (tgt := 24) (D_Text_numberOf 30 rfl) rfl ?_
      refine j_loc [2, 3, 1, 0] rfl ?_
      exact ih (hx2) (wr_wr _) (wr_wr _) h
def f_Text_numberOf (G : GS) (a1 : Int) (a2 : Int) : Option (Int) :=
  gd (0 ≤ a1 ∧ a1 < 800) <|
  (f_Text_isDigit G (gi G 16 a1.toNat)).bind fun q1 =>
  if q1 = 0 then
    some 0
  else
    if 5 ≤ wr (a2 - a1) then
      some 0
    else
      f_Text_numberOf_L24 G FU a2 0 a1
theorem c_Text_numberOf {X : XT} {G : GS} {a1 : Int} {a2 : Int} {r : Int} (ha1 : wr a1 = a1) (ha2 : wr a2 = a2) (h : f_Text_numberOf G a1 a2 = some r) : Call X true 7 0 0 M_Text_numberOf [rf X 15, vi a1, vi a2] NC G (Ri r G) := by
  refine Call_of_J cw_Text_numberOf (by decide +kernel) (Nat.le_of_ble_eq_true rfl) ?_
  unfold f_Text_numberOf at h
  show J X true 7 0 0 M_Text_numberOf (Ri r G) NC 0 0 0 [(0, rf X 15), (1, vi a1), (2, vi a2)] [] G
  refine j_iconst (v := 0) (D_Text_numberOf 0 rfl) rfl ?_
  refine j_istoren (L' := [(3, vi 0), (0, rf X 15), (1, vi a1), (2, vi a2)]) (D_Text_numberOf 1 rfl) rfl (wr_lit rfl) (by decide) rfl ?_
  refine j_aloadn (k := 1) (D_Text_numberOf 2 rfl) rfl rfl ?_
  refine j_getR rfl fa_Text_11 kd_15 lc_15 (by decide) rfl fx_15_0 (by decide) (D_Text_numberOf 3 rfl) ?_
  refine j_iloadn (k := 2) (D_Text_numberOf 4 rfl) rfl rfl ?_
  have g1 := gd_c h
  replace h := gd_s h
  refine j_bald (NI := 800) (D_Text_numberOf 5 rfl) kd_16 lc_16 (ha1) rfl g1.1 g1.2 ?_
  obtain ⟨q1, e1, h⟩ := Option.bind_eq_some_iff.mp h
  refine j_cSz (c_Text_isDigit (wr_gi _ _ _) e1) rfl lk_Text_74 sok_Text_isDigit (by decide) rfl rfl (Nat.le_of_ble_eq_true rfl) (D_Text_numberOf 6 rfl) (fun w1 bw1 => ?_)
  refine j_if_eq (tgt := 52) (D_Text_numberOf 7 rfl) rfl (w1) (fun c1 => ?_) (fun c1 => ?_)
  · replace h := ite_t h c1
    refine j_iloadn (k := 0) (D_Text_numberOf 31 rfl) rfl rfl ?_
    exact j_iret (D_Text_numberOf 32 rfl) rfl (wr_lit rfl) rfl rfl (leafIo h (wr_n (wr_lit rfl)))
  · replace h := ite_f h c1
    refine j_iloadn (k := 3) (D_Text_numberOf 8 rfl) rfl rfl ?_
    refine j_iloadn (k := 2) (D_Text_numberOf 9 rfl) rfl rfl ?_
    refine j_isub (D_Text_numberOf 10 rfl) ?_
    refine j_iconst (v := 5) (D_Text_numberOf 11 rfl) rfl ?_
    refine j_ic_ge (tgt := 52) (D_Text_numberOf 12 rfl) rfl (rfl) (wr_lit rfl) (fun c2 => ?_) (fun c2 => ?_)
    · replace h := ite_t h c2
      refine j_iloadn (k := 0) (D_Text_numberOf 31 rfl) rfl rfl ?_
      exact j_iret (D_Text_numberOf 32 rfl) rfl (wr_lit rfl) rfl rfl (leafIo h (wr_n (wr_lit rfl)))
    · replace h := ite_f h c2
      refine j_iloadn (k := 2) (D_Text_numberOf 13 rfl) rfl rfl ?_
      refine j_istore (L' := [(4, vi a1), (3, vi 0), (0, rf X 15), (1, vi a1), (2, vi a2)]) (D_Text_numberOf 14 rfl) (ha1) (by decide) rfl ?_
      refine j_loc [2, 4, 1, 0] rfl ?_
      exact s_Text_numberOf_L24 FU (ha2) (wr_lit rfl) (ha1) h
abbrev M_Text_addToken : MI := (⟨"InquestHall$Text", "addToken", "(III)V"⟩, prog_12_method_4_code, 4, none)
theorem cw_Text_addToken : Cond.code M_Text_addToken.1 M_Text_addToken.2.1 M_Text_addToken.2.2.1 M_Text_addToken.2.2.2 ∈ TS := mTS (List.mem_of_getElem? (i := 779) (by decide +kernel)) (by decide +kernel)
theorem fa_Text_46 : FA "InquestHall$Text" 46 3 6 false .int := ⟨_, _, _, _, ok_Text, by decide, mTS (List.mem_of_getElem? (i := 299) (by decide +kernel)) (by decide +kernel), rfl, rfl⟩
theorem fa_Text_19 : FA "InquestHall$Text" 19 3 3 true (.array .int) := ⟨_, _, _, _, ok_Text, by decide, mTS (List.mem_of_getElem? (i := 296) (by decide +kernel)) (by decide +kernel), rfl, rfl⟩
theorem fx_15_3 {G : GS} (w : WF true NC G) : G.2.2 15 3 = 18 := w.2 rfl (15, 3, 18) (by decide)
theorem kd_18 : kd 18 = (0, 801) := rfl
theorem lc_18 : 18 < NC := by decide
theorem fa_Text_22 : FA "InquestHall$Text" 22 3 4 true (.array .int) := ⟨_, _, _, _, ok_Text, by decide, mTS (List.mem_of_getElem? (i := 297) (by decide +kernel)) (by decide +kernel), rfl, rfl⟩
theorem fx_15_4 {G : GS} (w : WF true NC G) : G.2.2 15 4 = 19 := w.2 rfl (15, 4, 19) (by decide)
theorem kd_19 : kd 19 = (0, 801) := rfl
theorem lc_19 : 19 < NC := by decide
theorem fa_Text_25 : FA "InquestHall$Text" 25 3 5 true (.array .int) := ⟨_, _, _, _, ok_Text, by decide, mTS (List.mem_of_getElem? (i := 298) (by decide +kernel)) (by decide +kernel), rfl, rfl⟩
theorem fx_15_5 {G : GS} (w : WF true NC G) : G.2.2 15 5 = 20 := w.2 rfl (15, 5, 20) (by decide)
theorem kd_20 : kd 20 = (0, 801) := rfl
theorem lc_20 : 20 < NC := by decide
def tb_Text_addToken : List (Nat × Instr × Nat) := [(0, .aload_n 0, 1), (1, .getfield 46, 3), (4, .aload_n 0, 1), (5, .getfield 19, 3), (8, .arraylength, 1), (9, .if_icmp .ge 43, 3), (12, .aload_n 0, 1), (13, .getfield 19, 3), (16, .aload_n 0, 1), (17, .getfield 46, 3), (20, .iload_n 1, 1), (21, .iastore, 1), (22, .aload_n 0, 1), (23, .getfield 22, 3), (26, .aload_n 0, 1), (27, .getfield 46, 3), (30, .iload_n 2, 1), (31, .iastore, 1), (32, .aload_n 0, 1), (33, .getfield 25, 3), (36, .aload_n 0, 1), (37, .getfield 46, 3), (40, .iload_n 3, 1), (41, .iastore, 1), (42, .aload_n 0, 1), (43, .dup, 1), (44, .getfield 46, 3), (47, .iconst 1, 1), (48, .iadd, 1), (49, .putfield 46, 3), (52, .return_, 1)]
theorem D_Text_addToken (i : Nat) {pc len : Nat} {ins : Instr} (hi : tb_Text_addToken[i]? = some (pc, ins, len)) : decode M_Text_addToken.2.1 pc = .ok (ins, len) := dec_of (by decide +kernel) i hi
def f_Text_addToken (G : GS) (a1 : Int) (a2 : Int) (a3 : Int) : Option (GS) :=
  if 801 ≤ gi G 15 6 then
    some G
  else
    gd (0 ≤ gi G 15 6 ∧ gi G 15 6 < 801) <|
    wG (si G 18 (gi G 15 6).toNat a1) fun G1 =>
    gd (0 ≤ gi G1 15 6 ∧ gi G1 15 6 < 801) <|
    wG (si G1 19 (gi G1 15 6).toNat a2) fun G2 =>
    gd (0 ≤ gi G2 15 6 ∧ gi G2 15 6 < 801) <|
    wG (si G2 20 (gi G2 15 6).toNat a3) fun G3 =>
    wG (si G3 15 6 ((gi G3 15 6) + 1)) fun G4 =>
    some G4
theorem c_Text_addToken {X : XT} {G : GS} {a1 : Int} {a2 : Int} {a3 : Int} {r : GS} (ha1 : wr a1 = a1) (ha2 : wr a2 = a2) (ha3 : wr a3 = a3) (h : f_Text_addToken G a1 a2 a3 = some r) : Call X true 6 0 0 M_Text_addToken [rf X 15, vi a1, vi a2, vi a3] NC G (Rv r) := by
  refine Call_of_J cw_Text_addToken (by decide +kernel) (Nat.le_of_ble_eq_true rfl) ?_
  unfold f_Text_addToken at h
  show J X true 6 0 0 M_Text_addToken (Rv r) NC 0 0 0 [(0, rf X 15), (1, vi a1), (2, vi a2), (3, vi a3)] [] G
  refine j_aloadn (k := 0) (D_Text_addToken 0 rfl) rfl rfl ?_
  refine j_getI rfl fa_Text_46 kd_15 lc_15 (by decide) rfl (D_Text_addToken 1 rfl) ?_
  refine j_aloadn (k := 0) (D_Text_addToken 2 rfl) rfl rfl ?_
  refine j_getR rfl fa_Text_19 kd_15 lc_15 (by decide) rfl fx_15_3 (by decide) (D_Text_addToken 3 rfl) ?_
  refine j_alenI (NI := 801) (D_Text_addToken 4 rfl) kd_18 lc_18 rfl ?_
  refine j_ic_ge (tgt := 52) (D_Text_addToken 5 rfl) rfl (wr_gi _ _ _) (wr_lit rfl) (fun c1 => ?_) (fun c1 => ?_)
  · replace h := ite_t h c1
    exact j_vret (D_Text_addToken 30 rfl) rfl rfl rfl (leafV h)
  · replace h := ite_f h c1
    refine j_aloadn (k := 0) (D_Text_addToken 6 rfl) rfl rfl ?_
    refine j_getR rfl fa_Text_19 kd_15 lc_15 (by decide) rfl fx_15_3 (by decide) (D_Text_addToken 7 rfl) ?_
    refine j_aloadn (k := 0) (D_Text_addToken 8 rfl) rfl rfl ?_
    refine j_getI rfl fa_Text_46 kd_15 lc_15 (by decide) rfl (D_Text_addToken 9 rfl) ?_
    refine j_iloadn (k := 1) (D_Text_addToken 10 rfl) rfl rfl ?_
    have g1 := gd_c h
    replace h := gd_s h
    refine j_iast (NI := 801) (D_Text_addToken 11 rfl) kd_18 lc_18 (wr_gi _ _ _) rfl g1.1 g1.2 ?_
    refine j_gen (fun G1 e1 => ?_)
    replace h := wG_at h e1
    refine j_aloadn (k := 0) (D_Text_addToken 12 rfl) rfl rfl ?_
    refine j_getR rfl fa_Text_22 kd_15 lc_15 (by decide) rfl fx_15_4 (by decide) (D_Text_addToken 13 rfl) ?_
    refine j_aloadn (k := 0) (D_Text_addToken 14 rfl) rfl rfl ?_
    refine j_getI rfl fa_Text_46 kd_15 lc_15 (by decide) rfl (D_Text_addToken 15 rfl) ?_
    refine j_iloadn (k := 2) (D_Text_addToken 16 rfl) rfl rfl ?_
    have g2 := gd_c h
    replace h := gd_s h
    refine j_iast (NI := 801) (D_Text_addToken 17 rfl) kd_19 lc_19 (wr_gi _ _ _) rfl g2.1 g2.2 ?_
    refine j_gen (fun G2 e2 => ?_)
    replace h := wG_at h e2
    refine j_aloadn (k := 0) (D_Text_addToken 18 rfl) rfl rfl ?_
    refine j_getR rfl fa_Text_25 kd_15 lc_15 (by decide) rfl fx_15_5 (by decide) (D_Text_addToken 19 rfl) ?_
    refine j_aloadn (k := 0) (D_Text_addToken 20 rfl) rfl rfl ?_
    refine j_getI rfl fa_Text_46 kd_15 lc_15 (by decide) rfl (D_Text_addToken 21 rfl) ?_
    refine j_iloadn (k := 3) (D_Text_addToken 22 rfl) rfl rfl ?_
    have g3 := gd_c h
    replace h := gd_s h
    refine j_iast (NI := 801) (D_Text_addToken 23 rfl) kd_20 lc_20 (wr_gi _ _ _) rfl g3.1 g3.2 ?_
    refine j_gen (fun G3 e3 => ?_)
    replace h := wG_at h e3
    refine j_aloadn (k := 0) (D_Text_addToken 24 rfl) rfl rfl ?_
    refine j_dup (D_Text_addToken 25 rfl) rfl ?_
    refine j_getI rfl fa_Text_46 kd_15 lc_15 (by decide) rfl (D_Text_addToken 26 rfl) ?_
    refine j_iconst (v := 1) (D_Text_addToken 27 rfl) rfl ?_
    refine j_iadd (D_Text_addToken 28 rfl) ?_
    refine j_putI rfl fa_Text_46 kd_15 lc_15 (by decide) rfl (D_Text_addToken 29 rfl) ?_
    refine j_gen (fun G4 e4 => ?_)
    replace h := wG_at h e4
    exact j_vret (D_Text_addToken 30 rfl) rfl rfl rfl (leafV h)
abbrev M_Text_scan : MI := (⟨"InquestHall$Text", "scan", "()V"⟩, prog_12_method_3_code, 3, none)
theorem cw_Text_scan : Cond.code M_Text_scan.1 M_Text_scan.2.1 M_Text_scan.2.2.1 M_Text_scan.2.2.2 ∈ TS := mTS (List.mem_of_getElem? (i := 746) (by decide +kernel)) (by decide +kernel)
theorem fa_Text_49 : FA "InquestHall$Text" 49 3 7 false .int := ⟨_, _, _, _, ok_Text, by decide, mTS (List.mem_of_getElem? (i := 300) (by decide +kernel)) (by decide +kernel), rfl, rfl⟩
theorem fa_Text_52 : FA "InquestHall$Text" 52 3 8 false .int := ⟨_, _, _, _, ok_Text, by decide, mTS (List.mem_of_getElem? (i := 303) (by decide +kernel)) (by decide +kernel), rfl, rfl⟩
theorem fa_Text_28 : FA "InquestHall$Text" 28 3 9 false .int := ⟨_, _, _, _, ok_Text, by decide, mTS (List.mem_of_getElem? (i := 305) (by decide +kernel)) (by decide +kernel), rfl, rfl⟩
theorem lk_Text_66 : Cond.methodLink "InquestHall$Text" 66 M_Text_addToken.1 ∈ TS := mTS (List.mem_of_getElem? (i := 776) (by decide +kernel)) (by decide +kernel)
theorem mok_Text_addToken : MOK M_Text_addToken 3 := ⟨mTS (List.mem_of_getElem? (i := 778) (by decide +kernel)) (by decide +kernel), mTS (List.mem_of_getElem? (i := 6) (by decide +kernel)) (by decide +kernel), mTS (List.mem_of_getElem? (i := 125) (by decide +kernel)) (by decide +kernel), cw_Text_addToken, ⟨by decide, by decide, by decide +kernel⟩, by decide +kernel, by decide⟩
theorem lk_Text_55 : Cond.methodLink "InquestHall$Text" 55 M_Text_lastTogether.1 ∈ TS := mTS (List.mem_of_getElem? (i := 747) (by decide +kernel)) (by decide +kernel)
theorem mok_Text_lastTogether : MOK M_Text_lastTogether 1 := ⟨mTS (List.mem_of_getElem? (i := 749) (by decide +kernel)) (by decide +kernel), mTS (List.mem_of_getElem? (i := 1) (by decide +kernel)) (by decide +kernel), mTS (List.mem_of_getElem? (i := 125) (by decide +kernel)) (by decide +kernel), cw_Text_lastTogether, ⟨by decide, by decide, by decide +kernel⟩, by decide +kernel, by decide⟩
theorem lk_Text_59 : Cond.methodLink "InquestHall$Text" 59 M_Text_kindOf.1 ∈ TS := mTS (List.mem_of_getElem? (i := 757) (by decide +kernel)) (by decide +kernel)
theorem mok_Text_kindOf : MOK M_Text_kindOf 2 := ⟨mTS (List.mem_of_getElem? (i := 759) (by decide +kernel)) (by decide +kernel), mTS (List.mem_of_getElem? (i := 2) (by decide +kernel)) (by decide +kernel), mTS (List.mem_of_getElem? (i := 125) (by decide +kernel)) (by decide +kernel), cw_Text_kindOf, ⟨by decide, by decide, by decide +kernel⟩, by decide +kernel, by decide⟩
theorem lk_Text_63 : Cond.methodLink "InquestHall$Text" 63 M_Text_numberOf.1 ∈ TS := mTS (List.mem_of_getElem? (i := 772) (by decide +kernel)) (by decide +kernel)
theorem mok_Text_numberOf : MOK M_Text_numberOf 2 := ⟨mTS (List.mem_of_getElem? (i := 774) (by decide +kernel)) (by decide +kernel), mTS (List.mem_of_getElem? (i := 5) (by decide +kernel)) (by decide +kernel), mTS (List.mem_of_getElem? (i := 125) (by decide +kernel)) (by decide +kernel), cw_Text_numberOf, ⟨by decide, by decide, by decide +kernel⟩, by decide +kernel, by decide⟩
def tb_Text_scan : List (Nat × Instr × Nat) := [(0, .aload_n 0, 1), (1, .iconst 0, 1), (2, .putfield 46, 3), (5, .aload_n 0, 1), (6, .iconst 0, 1), (7, .putfield 49, 3), (10, .aload_n 0, 1), (11, .iconst 0, 1), (12, .putfield 52, 3), (15, .aload_n 0, 1), (16, .iconst (-1), 1), (17, .putfield 28, 3), (20, .iconst (-1), 1), (21, .istore_n 1, 1), (22, .iconst 0, 1), (23, .istore_n 2, 1), (24, .iload_n 2, 1), (25, .aload_n 0, 1), (26, .getfield 44, 3), (29, .if_icmp .ge 59, 3), (32, .iload_n 2, 1), (33, .iload_n 1, 1), (34, .if_icmp .le 48, 3), (37, .aload_n 0, 1), (38, .getfield 11, 3), (41, .iload_n 2, 1), (42, .baload, 1), (43, .bipush 32, 2), (45, .if_icmp .eq 37, 3), (48, .aload_n 0, 1), (49, .getfield 11, 3), (52, .iload_n 2, 1), (53, .baload, 1), (54, .bipush 10, 2), (56, .if_icmp .eq 26, 3), (59, .aload_n 0, 1), (60, .iload_n 2, 1), (61, .invokevirtual 55, 3), (64, .istore_n 1, 1), (65, .aload_n 0, 1), (66, .aload_n 0, 1), (67, .iload_n 2, 1), (68, .iload_n 1, 1), (69, .invokevirtual 59, 3), (72, .aload_n 0, 1), (73, .iload_n 2, 1), (74, .iload_n 1, 1), (75, .invokevirtual 63, 3), (78, .iload_n 2, 1), (79, .invokevirtual 66, 3), (82, .iinc 2 1, 3), (85, .goto (-61), 3), (88, .aload_n 0, 1), (89, .iconst 0, 1), (90, .iconst 0, 1), (91, .aload_n 0, 1), (92, .getfield 44, 3), (95, .invokevirtual 66, 3), (98, .aload_n 0, 1), (99, .iconst 0, 1), (100, .putfield 44, 3), (103, .return_, 1)]
theorem D_Text_scan (i : Nat) {pc len : Nat} {ins : Instr} (hi : tb_Text_scan[i]? = some (pc, ins, len)) : decode M_Text_scan.2.1 pc = .ok (ins, len) := dec_of (by decide +kernel) i hi
def f_Text_scan_L82 (k24 : GS → Int → Int → Option (GS)) (G : GS) (x1 : Int) (x2 : Int) : Option (GS) :=
  k24 G x1 (wr (x2 + 1))
theorem s_Text_scan_L82 {X : XT} {r : GS} {k24 : GS → Int → Int → Option (GS)} (hk24 : ∀ {G : GS} {x1 : Int} {x2 : Int} , wr x1 = x1 → wr x2 = x2 → k24 G x1 x2 = some r → J X true 12 0 0 M_Text_scan (Rv r) NC 0 0 24 [(0, rf X 15), (1, vi x1), (2, vi x2)] [] G) : ∀ {G : GS} {x1 : Int} {x2 : Int}, wr x1 = x1 → wr x2 = x2 → f_Text_scan_L82 k24 G x1 x2 = some r → J X true 12 0 0 M_Text_scan (Rv r) NC 0 0 82 [(0, rf X 15), (1, vi x1), (2, vi x2)] [] G := by
  intro G x1 x2 hx1 hx2 h
  unfold f_Text_scan_L82 at h
  refine j_iinc (k := 2) (L' := [(2, vi (wr (x2 + 1))), (0, rf X 15), (1, vi x1)]) (D_Text_scan 50 rfl) rfl rfl (by decide) rfl ?_
  refine j_goto (tgt := 24) (D_Text_scan 51 rfl) rfl ?_
  refine j_loc [1, 2, 0] rfl ?_
  exact hk24 (hx1) (wr_wr _) h
def f_Text_scan_L24 : Nat → GS → Int → Int → Option (GS)
  | 0, _, _, _ => none
  | n + 1, G, x1, x2 =>
    if gi G 15 1 ≤ x2 then
      (f_Text_addToken G 0 0 (gi G 15 1)).bind fun q1 =>
      wG (si q1 15 1 0) fun G1 =>
      some G1
    else
      if x2 ≤ x1 then
        f_Text_scan_L82 (f_Text_scan_L24 n) G x1 x2
      else
        gd (0 ≤ x2 ∧ x2 < 800) <|
        if gi G 16 x2.toNat = 32 then
          f_Text_scan_L82 (f_Text_scan_L24 n) G x1 x2
        else
          gd (0 ≤ x2 ∧ x2 < 800) <|
          if gi G 16 x2.toNat = 10 then
            f_Text_scan_L82 (f_Text_scan_L24 n) G x1 x2
          else
            (f_Text_lastTogether G x2).bind fun q2 =>
            (f_Text_kindOf G x2 q2).bind fun q3 =>
            (f_Text_numberOf G x2 q2).bind fun q4 =>
            (f_Text_addToken G q3 q4 x2).bind fun q5 =>
            f_Text_scan_L82 (f_Text_scan_L24 n) q5 q2 x2
theorem s_Text_scan_L24 {X : XT} {r : GS} : ∀ (n : Nat) {G : GS} {x1 : Int} {x2 : Int}, wr x1 = x1 → wr x2 = x2 → f_Text_scan_L24 n G x1 x2 = some r → J X true 12 0 0 M_Text_scan (Rv r) NC 0 0 24 [(0, rf X 15), (1, vi x1), (2, vi x2)] [] G := by
  intro n
  induction n with
  | zero =>
    intro G x1 x2 hx1 hx2 h
    exact none_some h
  | succ n ih =>
    intro G x1 x2 hx1 hx2 h
    rw [f_Text_scan_L24] at h
    refine j_iloadn (k := 2) (D_Text_scan 16 rfl) rfl rfl ?_
    refine j_aloadn (k := 0) (D_Text_scan 17 rfl) rfl rfl ?_
    refine j_getI rfl fa_Text_44 kd_15 lc_15 (by decide) rfl (D_Text_scan 18 rfl) ?_
    refine j_ic_ge (tgt := 88) (D_Text_scan 19 rfl) rfl (hx2) (wr_gi _ _ _) (fun c1 => ?_) (fun c1 => ?_)
    · replace h := ite_t h c1
      refine j_aloadn (k := 0) (D_Text_scan 52 rfl) rfl rfl ?_
      refine j_iconst (v := 0) (D_Text_scan 53 rfl) rfl ?_
      refine j_iconst (v := 0) (D_Text_scan 54 rfl) rfl ?_
      refine j_aloadn (k := 0) (D_Text_scan 55 rfl) rfl rfl ?_
      refine j_getI rfl fa_Text_44 kd_15 lc_15 (by decide) rfl (D_Text_scan 56 rfl) ?_
      obtain ⟨q1, e1, h⟩ := Option.bind_eq_some_iff.mp h
      refine j_cVv (c_Text_addToken (wr_lit rfl) (wr_lit rfl) (wr_gi _ _ _) e1) rfl lk_Text_66 mok_Text_addToken kd_15 lc_15 rfl (by decide) rfl rfl (Nat.le_of_ble_eq_true rfl) (D_Text_scan 57 rfl) ?_
      refine j_aloadn (k := 0) (D_Text_scan 58 rfl) rfl rfl ?_
      refine j_iconst (v := 0) (D_Text_scan 59 rfl) rfl ?_
      refine j_putI rfl fa_Text_44 kd_15 lc_15 (by decide) rfl (D_Text_scan 60 rfl) ?_
      refine j_gen (fun G1 e2 => ?_)
      replace h := wG_at h e2
      exact j_vret (D_Text_scan 61 rfl) rfl rfl rfl (leafV h)
    · replace h := ite_f h c1
      refine j_iloadn (k := 2) (D_Text_scan 20 rfl) rfl rfl ?_
      refine j_iloadn (k := 1) (D_Text_scan 21 rfl) rfl rfl ?_
      refine j_ic_le (tgt := 82) (D_Text_scan 22 rfl) rfl (hx2) (hx1) (fun c2 => ?_) (fun c2 => ?_)
      · replace h := ite_t h c2
        refine j_loc [0, 1, 2] rfl ?_
        exact s_Text_scan_L82 ih (hx1) (hx2) h
      · replace h := ite_f h c2
        refine j_aloadn (k := 0) (D_Text_scan 23 rfl) rfl rfl ?_
        refine j_getR rfl fa_Text_11 kd_15 lc_15 (by decide) rfl fx_15_0 (by decide) (D_Text_scan 24 rfl) ?_
        refine j_iloadn (k := 2) (D_Text_scan 25 rfl) rfl rfl ?_
        have g1 := gd_c h
        replace h := gd_s h
        refine j_bald (NI := 800) (D_Text_scan 26 rfl) kd_16 lc_16 (hx2) rfl g1.1 g1.2 ?_
        refine j_bipush (v := 32) (D_Text_scan 27 rfl) rfl ?_
        refine j_ic_eq (tgt := 82) (D_Text_scan 28 rfl) rfl (wr_gi _ _ _) (wr_lit rfl) (fun c3 => ?_) (fun c3 => ?_)
        · replace h := ite_t h c3
          refine j_loc [0, 1, 2] rfl ?_
          exact s_Text_scan_L82 ih (hx1) (hx2) h
        · replace h := ite_f h c3
          refine j_aloadn (k := 0) (D_Text_scan 29 rfl) rfl rfl ?_
          refine j_getR rfl fa_Text_11 kd_15 lc_15 (by decide) rfl fx_15_0 (by decide) (D_Text_scan 30 rfl) ?_
          refine j_iloadn (k := 2) (D_Text_scan 31 rfl) rfl rfl ?_
          have g2 := gd_c h
          replace h := gd_s h
          refine j_bald (NI := 800) (D_Text_scan 32 rfl) kd_16 lc_16 (hx2) rfl g2.1 g2.2 ?_
          refine j_bipush (v := 10) (D_Text_scan 33 rfl) rfl ?_
          refine j_ic_eq (tgt := 82) (D_Text_scan 34 rfl) rfl (wr_gi _ _ _) (wr_lit rfl) (fun c4 => ?_) (fun c4 => ?_)
          · replace h := ite_t h c4
            refine j_loc [0, 1, 2] rfl ?_
            exact s_Text_scan_L82 ih (hx1) (hx2) h
          · replace h := ite_f h c4
            refine j_aloadn (k := 0) (D_Text_scan 35 rfl) rfl rfl ?_
            refine j_iloadn (k := 2) (D_Text_scan 36 rfl) rfl rfl ?_
            obtain ⟨q2, e3, h⟩ := Option.bind_eq_some_iff.mp h
            refine j_cVi (c_Text_lastTogether (hx2) e3) rfl lk_Text_55 mok_Text_lastTogether kd_15 lc_15 rfl (by decide) rfl rfl (Nat.le_of_ble_eq_true rfl) (D_Text_scan 37 rfl) (fun w1 => ?_)
            refine j_istoren (L' := [(1, vi q2), (0, rf X 15), (2, vi x2)]) (D_Text_scan 38 rfl) rfl (w1) (by decide) rfl ?_
            refine j_aloadn (k := 1) (D_Text_scan 39 rfl) rfl rfl ?_
            refine j_aloadn (k := 1) (D_Text_scan 40 rfl) rfl rfl ?_
            refine j_iloadn (k := 2) (D_Text_scan 41 rfl) rfl rfl ?_
            refine j_iloadn (k := 0) (D_Text_scan 42 rfl) rfl rfl ?_
            obtain ⟨q3, e4, h⟩ := Option.bind_eq_some_iff.mp h
            refine j_cVi (c_Text_kindOf (hx2) (w1) e4) rfl lk_Text_59 mok_Text_kindOf kd_15 lc_15 rfl (by decide) rfl rfl (Nat.le_of_ble_eq_true rfl) (D_Text_scan 43 rfl) (fun w2 => ?_)
            refine j_aloadn (k := 1) (D_Text_scan 44 rfl) rfl rfl ?_
            refine j_iloadn (k := 2) (D_Text_scan 45 rfl) rfl rfl ?_
            refine j_iloadn (k := 0) (D_Text_scan 46 rfl) rfl rfl ?_
            obtain ⟨q4, e5, h⟩ := Option.bind_eq_some_iff.mp h
            refine j_cVi (c_Text_numberOf (hx2) (w1) e5) rfl lk_Text_63 mok_Text_numberOf kd_15 lc_15 rfl (by decide) rfl rfl (Nat.le_of_ble_eq_true rfl) (D_Text_scan 47 rfl) (fun w3 => ?_)
            refine j_iloadn (k := 2) (D_Text_scan 48 rfl) rfl rfl ?_
            obtain ⟨q5, e6, h⟩ := Option.bind_eq_some_iff.mp h
            refine j_cVv (c_Text_addToken (w2) (w3) (hx2) e6) rfl lk_Text_66 mok_Text_addToken kd_15 lc_15 rfl (by decide) rfl rfl (Nat.le_of_ble_eq_true rfl) (D_Text_scan 49 rfl) ?_
            refine j_loc [1, 0, 2] rfl ?_
            exact s_Text_scan_L82 ih (w1) (hx2) h
def f_Text_scan (G : GS) : Option (GS) :=
  wG (si G 15 6 0) fun G1 =>
  wG (si G1 15 7 0) fun G2 =>
  wG (si G2 15 8 0) fun G3 =>
  wG (si G3 15 9 (-1)) fun G4 =>
  f_Text_scan_L24 FU G4 (-1) 0
theorem c_Text_scan {X : XT} {G : GS} {r : GS} (h : f_Text_scan G = some r) : Call X true 12 0 0 M_Text_scan [rf X 15] NC G (Rv r) := by
  refine Call_of_J cw_Text_scan (by decide +kernel) (Nat.le_of_ble_eq_true rfl) ?_
  unfold f_Text_scan at h
  show J X true 12 0 0 M_Text_scan (Rv r) NC 0 0 0 [(0, rf X 15)] [] G
  refine j_aloadn (k := 0) (D_Text_scan 0 rfl) rfl rfl ?_
  refine j_iconst (v := 0) (D_Text_scan 1 rfl) rfl ?_
  refine j_putI rfl fa_Text_46 kd_15 lc_15 (by decide) rfl (D_Text_scan 2 rfl) ?_
  refine j_gen (fun G1 e1 => ?_)
  replace h := wG_at h e1
  refine j_aloadn (k := 0) (D_Text_scan 3 rfl) rfl rfl ?_
  refine j_iconst (v := 0) (D_Text_scan 4 rfl) rfl ?_
  refine j_putI rfl fa_Text_49 kd_15 lc_15 (by decide) rfl (D_Text_scan 5 rfl) ?_
  refine j_gen (fun G2 e2 => ?_)
  replace h := wG_at h e2
  refine j_aloadn (k := 0) (D_Text_scan 6 rfl) rfl rfl ?_
  refine j_iconst (v := 0) (D_Text_scan 7 rfl) rfl ?_
  refine j_putI rfl fa_Text_52 kd_15 lc_15 (by decide) rfl (D_Text_scan 8 rfl) ?_
  refine j_gen (fun G3 e3 => ?_)
  replace h := wG_at h e3
  refine j_aloadn (k := 0) (D_Text_scan 9 rfl) rfl rfl ?_
  refine j_iconst (v := (-1)) (D_Text_scan 10 rfl) rfl ?_
  refine j_putI rfl fa_Text_28 kd_15 lc_15 (by decide) rfl (D_Text_scan 11 rfl) ?_
  refine j_gen (fun G4 e4 => ?_)
  replace h := wG_at h e4
  refine j_iconst (v := (-1)) (D_Text_scan 12 rfl) rfl ?_
  refine j_istoren (L' := [(1, vi (-1)), (0, rf X 15)]) (D_Text_scan 13 rfl) rfl (wr_lit rfl) (by decide) rfl ?_
  refine j_iconst (v := 0) (D_Text_scan 14 rfl) rfl ?_
  refine j_istoren (L' := [(2, vi 0), (1, vi (-1)), (0, rf X 15)]) (D_Text_scan 15 rfl) rfl (wr_lit rfl) (by decide) rfl ?_
  refine j_loc [2, 1, 0] rfl ?_
  exact s_Text_scan_L24 FU (wr_lit rfl) (wr_lit rfl) h
abbrev M_Law_reset : MI := (⟨"InquestHall$Law", "reset", "()V"⟩, prog_5_method_2_code, 1, none)
theorem cw_Law_reset : Cond.code M_Law_reset.1 M_Law_reset.2.1 M_Law_reset.2.2.1 M_Law_reset.2.2.2 ∈ TS := mTS (List.mem_of_getElem? (i := 541) (by decide +kernel)) (by decide +kernel)
theorem fa_Law_9 : FA "InquestHall$Law" 9 11 0 true (.array .int) := ⟨_, _, _, _, ok_Law, by decide, mTS (List.mem_of_getElem? (i := 543) (by decide +kernel)) (by decide +kernel), rfl, rfl⟩
theorem lk_Law_32 : Cond.methodLink "InquestHall$Law" 32 M_Arrays_fill.1 ∈ TS := mTS (List.mem_of_getElem? (i := 542) (by decide +kernel)) (by decide +kernel)
theorem sokfill : SOK M_Arrays_fill 2 := ⟨mTS (List.mem_of_getElem? (i := 370) (by decide +kernel)) (by decide +kernel), mTS (List.mem_of_getElem? (i := 132) (by decide +kernel)) (by decide +kernel), cw_Arrays_fill, ⟨by decide, by decide, by decide +kernel⟩, by decide +kernel, by decide⟩
theorem fa_Law_15 : FA "InquestHall$Law" 15 11 1 true (.array .int) := ⟨_, _, _, _, ok_Law, by decide, mTS (List.mem_of_getElem? (i := 546) (by decide +kernel)) (by decide +kernel), rfl, rfl⟩
theorem fa_Law_18 : FA "InquestHall$Law" 18 11 2 true (.array .int) := ⟨_, _, _, _, ok_Law, by decide, mTS (List.mem_of_getElem? (i := 549) (by decide +kernel)) (by decide +kernel), rfl, rfl⟩
theorem fa_Law_21 : FA "InquestHall$Law" 21 11 3 true (.array .int) := ⟨_, _, _, _, ok_Law, by decide, mTS (List.mem_of_getElem? (i := 552) (by decide +kernel)) (by decide +kernel), rfl, rfl⟩
theorem fa_Law_38 : FA "InquestHall$Law" 38 11 4 false .int := ⟨_, _, _, _, ok_Law, by decide, mTS (List.mem_of_getElem? (i := 555) (by decide +kernel)) (by decide +kernel), rfl, rfl⟩
theorem fa_Law_42 : FA "InquestHall$Law" 42 11 5 false .int := ⟨_, _, _, _, ok_Law, by decide, mTS (List.mem_of_getElem? (i := 558) (by decide +kernel)) (by decide +kernel), rfl, rfl⟩
theorem fa_Law_45 : FA "InquestHall$Law" 45 11 6 false .int := ⟨_, _, _, _, ok_Law, by decide, mTS (List.mem_of_getElem? (i := 561) (by decide +kernel)) (by decide +kernel), rfl, rfl⟩
theorem fa_Law_48 : FA "InquestHall$Law" 48 11 7 false .int := ⟨_, _, _, _, ok_Law, by decide, mTS (List.mem_of_getElem? (i := 564) (by decide +kernel)) (by decide +kernel), rfl, rfl⟩
theorem fa_Law_51 : FA "InquestHall$Law" 51 11 9 false .int := ⟨_, _, _, _, ok_Law, by decide, mTS (List.mem_of_getElem? (i := 570) (by decide +kernel)) (by decide +kernel), rfl, rfl⟩
def tb_Law_reset : List (Nat × Instr × Nat) := [(0, .aload_n 0, 1), (1, .getfield 9, 3), (4, .iconst 0, 1), (5, .invokestatic 32, 3), (8, .aload_n 0, 1), (9, .getfield 15, 3), (12, .iconst 0, 1), (13, .invokestatic 32, 3), (16, .aload_n 0, 1), (17, .getfield 18, 3), (20, .iconst 0, 1), (21, .invokestatic 32, 3), (24, .aload_n 0, 1), (25, .getfield 21, 3), (28, .iconst 0, 1), (29, .invokestatic 32, 3), (32, .aload_n 0, 1), (33, .iconst 1, 1), (34, .putfield 38, 3), (37, .aload_n 0, 1), (38, .iconst 3, 1), (39, .putfield 42, 3), (42, .aload_n 0, 1), (43, .sipush 9999, 3), (46, .putfield 45, 3), (49, .aload_n 0, 1), (50, .sipush 9999, 3), (53, .putfield 48, 3), (56, .aload_n 0, 1), (57, .iconst 0, 1), (58, .putfield 51, 3), (61, .return_, 1)]
theorem D_Law_reset (i : Nat) {pc len : Nat} {ins : Instr} (hi : tb_Law_reset[i]? = some (pc, ins, len)) : decode M_Law_reset.2.1 pc = .ok (ins, len) := dec_of (by decide +kernel) i hi
def f_Law_reset (G : GS) (c : Nat) : Option (GS) :=
  wG (fillG G (c + 1) 4 0) fun G1 =>
  wG (fillG G1 (c + 2) 3 0) fun G2 =>
  wG (fillG G2 (c + 3) 3 0) fun G3 =>
  wG (fillG G3 (c + 4) 3 0) fun G4 =>
  wG (si G4 c 4 1) fun G5 =>
  wG (si G5 c 5 3) fun G6 =>
  wG (si G6 c 6 9999) fun G7 =>
  wG (si G7 c 7 9999) fun G8 =>
  wG (si G8 c 9 0) fun G9 =>
  some G9
theorem c_Law_reset {X : XT} {G : GS} {c : Nat} {r : GS} (hc : lawC c = true) (h : f_Law_reset G c = some r) : Call X true 9 0 0 M_Law_reset [rf X c] NC G (Rv r) := by
  refine Call_of_J cw_Law_reset (by decide +kernel) (Nat.le_of_ble_eq_true rfl) ?_
  unfold f_Law_reset at h
  show J X true 9 0 0 M_Law_reset (Rv r) NC 0 0 0 [(0, rf X c)] [] G
  refine j_aloadn (k := 0) (D_Law_reset 0 rfl) rfl rfl ?_
  refine j_getR rfl fa_Law_9 (law_kd hc).1 (law_kd hc).2.1 (by decide) rfl (fun w => law_fx1 w hc) (by omega) (D_Law_reset 1 rfl) ?_
  refine j_iconst (v := 0) (D_Law_reset 2 rfl) rfl ?_
  refine j_cSv (c_fill (law_kd1 hc).1 (law_kd1 hc).2 (wr_lit rfl)) rfl lk_Law_32 sokfill (by decide) rfl rfl (Nat.le_of_ble_eq_true rfl) (D_Law_reset 3 rfl) ?_
  refine j_gen (fun G1 e1 => ?_)
  replace h := wG_at h e1
  refine j_aloadn (k := 0) (D_Law_reset 4 rfl) rfl rfl ?_
  refine j_getR rfl fa_Law_15 (law_kd hc).1 (law_kd hc).2.1 (by decide) rfl (fun w => law_fx2 w hc) (by omega) (D_Law_reset 5 rfl) ?_
  refine j_iconst (v := 0) (D_Law_reset 6 rfl) rfl ?_
  refine j_cSv (c_fill (law_kd2 hc).1 (law_kd2 hc).2 (wr_lit rfl)) rfl lk_Law_32 sokfill (by decide) rfl rfl (Nat.le_of_ble_eq_true rfl) (D_Law_reset 7 rfl) ?_
  refine j_gen (fun G2 e2 => ?_)
  replace h := wG_at h e2
  refine j_aloadn (k := 0) (D_Law_reset 8 rfl) rfl rfl ?_
  refine j_getR rfl fa_Law_18 (law_kd hc).1 (law_kd hc).2.1 (by decide) rfl (fun w => law_fx3 w hc) (by omega) (D_Law_reset 9 rfl) ?_
  refine j_iconst (v := 0) (D_Law_reset 10 rfl) rfl ?_
  refine j_cSv (c_fill (law_kd3 hc).1 (law_kd3 hc).2 (wr_lit rfl)) rfl lk_Law_32 sokfill (by decide) rfl rfl (Nat.le_of_ble_eq_true rfl) (D_Law_reset 11 rfl) ?_
  refine j_gen (fun G3 e3 => ?_)
  replace h := wG_at h e3
  refine j_aloadn (k := 0) (D_Law_reset 12 rfl) rfl rfl ?_
  refine j_getR rfl fa_Law_21 (law_kd hc).1 (law_kd hc).2.1 (by decide) rfl (fun w => law_fx4 w hc) (by omega) (D_Law_reset 13 rfl) ?_
  refine j_iconst (v := 0) (D_Law_reset 14 rfl) rfl ?_
  refine j_cSv (c_fill (law_kd4 hc).1 (law_kd4 hc).2 (wr_lit rfl)) rfl lk_Law_32 sokfill (by decide) rfl rfl (Nat.le_of_ble_eq_true rfl) (D_Law_reset 15 rfl) ?_
  refine j_gen (fun G4 e4 => ?_)
  replace h := wG_at h e4
  refine j_aloadn (k := 0) (D_Law_reset 16 rfl) rfl rfl ?_
  refine j_iconst (v := 1) (D_Law_reset 17 rfl) rfl ?_
  refine j_putI rfl fa_Law_38 (law_kd hc).1 (law_kd hc).2.1 (by decide) rfl (D_Law_reset 18 rfl) ?_
  refine j_gen (fun G5 e5 => ?_)
  replace h := wG_at h e5
  refine j_aloadn (k := 0) (D_Law_reset 19 rfl) rfl rfl ?_
  refine j_iconst (v := 3) (D_Law_reset 20 rfl) rfl ?_
  refine j_putI rfl fa_Law_42 (law_kd hc).1 (law_kd hc).2.1 (by decide) rfl (D_Law_reset 21 rfl) ?_
  refine j_gen (fun G6 e6 => ?_)
  replace h := wG_at h e6
  refine j_aloadn (k := 0) (D_Law_reset 22 rfl) rfl rfl ?_
  refine j_sipush (v := 9999) (D_Law_reset 23 rfl) rfl ?_
  refine j_putI rfl fa_Law_45 (law_kd hc).1 (law_kd hc).2.1 (by decide) rfl (D_Law_reset 24 rfl) ?_
  refine j_gen (fun G7 e7 => ?_)
  replace h := wG_at h e7
  refine j_aloadn (k := 0) (D_Law_reset 25 rfl) rfl rfl ?_
  refine j_sipush (v := 9999) (D_Law_reset 26 rfl) rfl ?_
  refine j_putI rfl fa_Law_48 (law_kd hc).1 (law_kd hc).2.1 (by decide) rfl (D_Law_reset 27 rfl) ?_
  refine j_gen (fun G8 e8 => ?_)
  replace h := wG_at h e8
  refine j_aloadn (k := 0) (D_Law_reset 28 rfl) rfl rfl ?_
  refine j_iconst (v := 0) (D_Law_reset 29 rfl) rfl ?_
  refine j_putI rfl fa_Law_51 (law_kd hc).1 (law_kd hc).2.1 (by decide) rfl (D_Law_reset 30 rfl) ?_
  refine j_gen (fun G9 e9 => ?_)
  replace h := wG_at h e9
  exact j_vret (D_Law_reset 31 rfl) rfl rfl rfl (leafV h)
abbrev M_Text_kind : MI := (⟨"InquestHall$Text", "kind", "()I"⟩, prog_12_method_13_code, 1, (some .int))
theorem cw_Text_kind : Cond.code M_Text_kind.1 M_Text_kind.2.1 M_Text_kind.2.2.1 M_Text_kind.2.2.2 ∈ TS := mTS (List.mem_of_getElem? (i := 788) (by decide +kernel)) (by decide +kernel)
def tb_Text_kind : List (Nat × Instr × Nat) := [(0, .aload_n 0, 1), (1, .getfield 49, 3), (4, .aload_n 0, 1), (5, .getfield 46, 3), (8, .if_icmp .ge 15, 3), (11, .aload_n 0, 1), (12, .getfield 19, 3), (15, .aload_n 0, 1), (16, .getfield 49, 3), (19, .iaload, 1), (20, .goto 4, 3), (23, .iconst 0, 1), (24, .ireturn, 1)]
theorem D_Text_kind (i : Nat) {pc len : Nat} {ins : Instr} (hi : tb_Text_kind[i]? = some (pc, ins, len)) : decode M_Text_kind.2.1 pc = .ok (ins, len) := dec_of (by decide +kernel) i hi
def f_Text_kind (G : GS) : Option (Int) :=
  if gi G 15 6 ≤ gi G 15 7 then
    some 0
  else
    gd (0 ≤ gi G 15 7 ∧ gi G 15 7 < 801) <|
    some (gi G 18 (gi G 15 7).toNat)
theorem c_Text_kind {X : XT} {G : GS} {r : Int} (h : f_Text_kind G = some r) : Call X true 6 0 0 M_Text_kind [rf X 15] NC G (Ri r G) := by
  refine Call_of_J cw_Text_kind (by decide +kernel) (Nat.le_of_ble_eq_true rfl) ?_
  unfold f_Text_kind at h
  show J X true 6 0 0 M_Text_kind (Ri r G) NC 0 0 0 [(0, rf X 15)] [] G
  refine j_aloadn (k := 0) (D_Text_kind 0 rfl) rfl rfl ?_
  refine j_getI rfl fa_Text_49 kd_15 lc_15 (by decide) rfl (D_Text_kind 1 rfl) ?_
  refine j_aloadn (k := 0) (D_Text_kind 2 rfl) rfl rfl ?_
  refine j_getI rfl fa_Text_46 kd_15 lc_15 (by decide) rfl (D_Text_kind 3 rfl) ?_
  refine j_ic_ge (tgt := 23) (D_Text_kind 4 rfl) rfl (wr_gi _ _ _) (wr_gi _ _ _) (fun c1 => ?_) (fun c1 => ?_)
  · replace h := ite_t h c1
    refine j_iconst (v := 0) (D_Text_kind 11 rfl) rfl ?_
    exact j_iret (D_Text_kind 12 rfl) rfl (wr_lit rfl) rfl rfl (leafIo h (wr_n (wr_lit rfl)))
  · replace h := ite_f h c1
    refine j_aloadn (k := 0) (D_Text_kind 5 rfl) rfl rfl ?_
    refine j_getR rfl fa_Text_19 kd_15 lc_15 (by decide) rfl fx_15_3 (by decide) (D_Text_kind 6 rfl) ?_
    refine j_aloadn (k := 0) (D_Text_kind 7 rfl) rfl rfl ?_
    refine j_getI rfl fa_Text_49 kd_15 lc_15 (by decide) rfl (D_Text_kind 8 rfl) ?_
    have g1 := gd_c h
    replace h := gd_s h
    refine j_iald (NI := 801) (D_Text_kind 9 rfl) kd_18 lc_18 (wr_gi _ _ _) rfl g1.1 g1.2 ?_
    refine j_goto (tgt := 24) (D_Text_kind 10 rfl) rfl ?_
    exact j_iret (D_Text_kind 12 rfl) rfl (wr_gi _ _ _) rfl rfl (leafIo h (wr_n (wr_gi _ _ _)))
abbrev M_LawReader_startsLine : MI := (⟨"InquestHall$LawReader", "startsLine", "(I)Z"⟩, prog_6_method_3_code, 1, (some .boolean))
theorem cw_LawReader_startsLine : Cond.code M_LawReader_startsLine.1 M_LawReader_startsLine.2.1 M_LawReader_startsLine.2.2.1 M_LawReader_startsLine.2.2.2 ∈ TS := mTS (List.mem_of_getElem? (i := 791) (by decide +kernel)) (by decide +kernel)
def tb_LawReader_startsLine : List (Nat × Instr × Nat) := [(0, .iload_n 0, 1), (1, .bipush 105, 2), (3, .if_icmp .eq 21, 3), (6, .iload_n 0, 1), (7, .bipush 114, 2), (9, .if_icmp .eq 15, 3), (12, .iload_n 0, 1), (13, .bipush 116, 2), (15, .if_icmp .lt 13, 3), (18, .iload_n 0, 1), (19, .bipush 120, 2), (21, .if_icmp .gt 7, 3), (24, .iconst 1, 1), (25, .goto 4, 3), (28, .iconst 0, 1), (29, .ireturn, 1)]
theorem D_LawReader_startsLine (i : Nat) {pc len : Nat} {ins : Instr} (hi : tb_LawReader_startsLine[i]? = some (pc, ins, len)) : decode M_LawReader_startsLine.2.1 pc = .ok (ins, len) := dec_of (by decide +kernel) i hi
def f_LawReader_startsLine (G : GS) (a0 : Int) : Option (Int) :=
  if a0 = 105 then
    some 1
  else
    if a0 = 114 then
      some 1
    else
      if a0 < 116 then
        some 0
      else
        if 120 < a0 then
          some 0
        else
          some 1
theorem c_LawReader_startsLine {X : XT} {G : GS} {a0 : Int} {r : Int} (ha0 : wr a0 = a0) (h : f_LawReader_startsLine G a0 = some r) : Call X true 6 0 0 M_LawReader_startsLine [vi a0] NC G (Rz r G) := by
  refine Call_of_J cw_LawReader_startsLine (by decide +kernel) (Nat.le_of_ble_eq_true rfl) ?_
  unfold f_LawReader_startsLine at h
  show J X true 6 0 0 M_LawReader_startsLine (Rz r G) NC 0 0 0 [(0, vi a0)] [] G
  refine j_iloadn (k := 0) (D_LawReader_startsLine 0 rfl) rfl rfl ?_
  refine j_bipush (v := 105) (D_LawReader_startsLine 1 rfl) rfl ?_
  refine j_ic_eq (tgt := 24) (D_LawReader_startsLine 2 rfl) rfl (ha0) (wr_lit rfl) (fun c1 => ?_) (fun c1 => ?_)
  · replace h := ite_t h c1
    refine j_iconst (v := 1) (D_LawReader_startsLine 12 rfl) rfl ?_
    refine j_goto (tgt := 29) (D_LawReader_startsLine 13 rfl) rfl ?_
    exact j_zret (D_LawReader_startsLine 15 rfl) rfl (wr_lit rfl) (nz_01 (by decide)) rfl rfl (leafZo h (wr_n (wr_lit rfl)) (by decide))
  · replace h := ite_f h c1
    refine j_iloadn (k := 0) (D_LawReader_startsLine 3 rfl) rfl rfl ?_
    refine j_bipush (v := 114) (D_LawReader_startsLine 4 rfl) rfl ?_
    refine j_ic_eq (tgt := 24) (D_LawReader_startsLine 5 rfl) rfl (ha0) (wr_lit rfl) (fun c2 => ?_) (fun c2 => ?_)
    · replace h := ite_t h c2
      refine j_iconst (v := 1) (D_LawReader_startsLine 12 rfl) rfl ?_
      refine j_goto (tgt := 29) (D_LawReader_startsLine 13 rfl) rfl ?_
      exact j_zret (D_LawReader_startsLine 15 rfl) rfl (wr_lit rfl) (nz_01 (by decide)) rfl rfl (leafZo h (wr_n (wr_lit rfl)) (by decide))
    · replace h := ite_f h c2
      refine j_iloadn (k := 0) (D_LawReader_startsLine 6 rfl) rfl rfl ?_
      refine j_bipush (v := 116) (D_LawReader_startsLine 7 rfl) rfl ?_
      refine j_ic_lt (tgt := 28) (D_LawReader_startsLine 8 rfl) rfl (ha0) (wr_lit rfl) (fun c3 => ?_) (fun c3 => ?_)
      · replace h := ite_t h c3
        refine j_iconst (v := 0) (D_LawReader_startsLine 14 rfl) rfl ?_
        exact j_zret (D_LawReader_startsLine 15 rfl) rfl (wr_lit rfl) (nz_01 (by decide)) rfl rfl (leafZo h (wr_n (wr_lit rfl)) (by decide))
      · replace h := ite_f h c3
        refine j_iloadn (k := 0) (D_LawReader_startsLine 9 rfl) rfl rfl ?_
        refine j_bipush (v := 120) (D_LawReader_startsLine 10 rfl) rfl ?_
        refine j_ic_gt (tgt := 28) (D_LawReader_startsLine 11 rfl) rfl (ha0) (wr_lit rfl) (fun c4 => ?_) (fun c4 => ?_)
        · replace h := ite_t h c4
          refine j_iconst (v := 0) (D_LawReader_startsLine 14 rfl) rfl ?_
          exact j_zret (D_LawReader_startsLine 15 rfl) rfl (wr_lit rfl) (nz_01 (by decide)) rfl rfl (leafZo h (wr_n (wr_lit rfl)) (by decide))
        · replace h := ite_f h c4
          refine j_iconst (v := 1) (D_LawReader_startsLine 12 rfl) rfl ?_
          refine j_goto (tgt := 29) (D_LawReader_startsLine 13 rfl) rfl ?_
          exact j_zret (D_LawReader_startsLine 15 rfl) rfl (wr_lit rfl) (nz_01 (by decide)) rfl rfl (leafZo h (wr_n (wr_lit rfl)) (by decide))
abbrev M_Text_fail : MI := (⟨"InquestHall$Text", "fail", "(I)V"⟩, prog_12_method_16_code, 2, none)
theorem cw_Text_fail : Cond.code M_Text_fail.1 M_Text_fail.2.1 M_Text_fail.2.2.1 M_Text_fail.2.2.2 ∈ TS := mTS (List.mem_of_getElem? (i := 795) (by decide +kernel)) (by decide +kernel)
def tb_Text_fail : List (Nat × Instr × Nat) := [(0, .aload_n 0, 1), (1, .getfield 52, 3), (4, .ifCond .ne 32, 3), (7, .aload_n 0, 1), (8, .getfield 49, 3), (11, .aload_n 0, 1), (12, .getfield 46, 3), (15, .if_icmp .ge 21, 3), (18, .aload_n 0, 1), (19, .iload_n 1, 1), (20, .putfield 52, 3), (23, .aload_n 0, 1), (24, .aload_n 0, 1), (25, .getfield 25, 3), (28, .aload_n 0, 1), (29, .getfield 49, 3), (32, .iaload, 1), (33, .putfield 28, 3), (36, .return_, 1)]
theorem D_Text_fail (i : Nat) {pc len : Nat} {ins : Instr} (hi : tb_Text_fail[i]? = some (pc, ins, len)) : decode M_Text_fail.2.1 pc = .ok (ins, len) := dec_of (by decide +kernel) i hi
def f_Text_fail (G : GS) (a1 : Int) : Option (GS) :=
  if gi G 15 8 = 0 then
    if gi G 15 6 ≤ gi G 15 7 then
      some G
    else
      wG (si G 15 8 a1) fun G1 =>
      gd (0 ≤ gi G1 15 7 ∧ gi G1 15 7 < 801) <|
      wG (si G1 15 9 (gi G1 20 (gi G1 15 7).toNat)) fun G2 =>
      some G2
  else
    some G
theorem c_Text_fail {X : XT} {G : GS} {a1 : Int} {r : GS} (ha1 : wr a1 = a1) (h : f_Text_fail G a1 = some r) : Call X true 6 0 0 M_Text_fail [rf X 15, vi a1] NC G (Rv r) := by
  refine Call_of_J cw_Text_fail (by decide +kernel) (Nat.le_of_ble_eq_true rfl) ?_
  unfold f_Text_fail at h
  show J X true 6 0 0 M_Text_fail (Rv r) NC 0 0 0 [(0, rf X 15), (1, vi a1)] [] G
  refine j_aloadn (k := 0) (D_Text_fail 0 rfl) rfl rfl ?_
  refine j_getI rfl fa_Text_52 kd_15 lc_15 (by decide) rfl (D_Text_fail 1 rfl) ?_
  refine j_if_ne (tgt := 36) (D_Text_fail 2 rfl) rfl (wr_gi _ _ _) (fun c1 => ?_) (fun c1 => ?_)
  · replace h := ite_f h c1
    exact j_vret (D_Text_fail 18 rfl) rfl rfl rfl (leafV h)
  · replace h := ite_t h c1
    refine j_aloadn (k := 0) (D_Text_fail 3 rfl) rfl rfl ?_
    refine j_getI rfl fa_Text_49 kd_15 lc_15 (by decide) rfl (D_Text_fail 4 rfl) ?_
    refine j_aloadn (k := 0) (D_Text_fail 5 rfl) rfl rfl ?_
    refine j_getI rfl fa_Text_46 kd_15 lc_15 (by decide) rfl (D_Text_fail 6 rfl) ?_
    refine j_ic_ge (tgt := 36) (D_Text_fail 7 rfl) rfl (wr_gi _ _ _) (wr_gi _ _ _) (fun c2 => ?_) (fun c2 => ?_)
    · replace h := ite_t h c2
      exact j_vret (D_Text_fail 18 rfl) rfl rfl rfl (leafV h)
    · replace h := ite_f h c2
      refine j_aloadn (k := 0) (D_Text_fail 8 rfl) rfl rfl ?_
      refine j_iloadn (k := 1) (D_Text_fail 9 rfl) rfl rfl ?_
      refine j_putI rfl fa_Text_52 kd_15 lc_15 (by decide) rfl (D_Text_fail 10 rfl) ?_
      refine j_gen (fun G1 e1 => ?_)
      replace h := wG_at h e1
      refine j_aloadn (k := 0) (D_Text_fail 11 rfl) rfl rfl ?_
      refine j_aloadn (k := 0) (D_Text_fail 12 rfl) rfl rfl ?_
      refine j_getR rfl fa_Text_25 kd_15 lc_15 (by decide) rfl fx_15_5 (by decide) (D_Text_fail 13 rfl) ?_
      refine j_aloadn (k := 0) (D_Text_fail 14 rfl) rfl rfl ?_
      refine j_getI rfl fa_Text_49 kd_15 lc_15 (by decide) rfl (D_Text_fail 15 rfl) ?_
      have g1 := gd_c h
      replace h := gd_s h
      refine j_iald (NI := 801) (D_Text_fail 16 rfl) kd_20 lc_20 (wr_gi _ _ _) rfl g1.1 g1.2 ?_
      refine j_putI rfl fa_Text_28 kd_15 lc_15 (by decide) rfl (D_Text_fail 17 rfl) ?_
      refine j_gen (fun G2 e2 => ?_)
      replace h := wG_at h e2
      exact j_vret (D_Text_fail 18 rfl) rfl rfl rfl (leafV h)
abbrev M_Text_step : MI := (⟨"InquestHall$Text", "step", "()V"⟩, prog_12_method_15_code, 1, none)
theorem cw_Text_step : Cond.code M_Text_step.1 M_Text_step.2.1 M_Text_step.2.2.1 M_Text_step.2.2.2 ∈ TS := mTS (List.mem_of_getElem? (i := 812) (by decide +kernel)) (by decide +kernel)
def tb_Text_step : List (Nat × Instr × Nat) := [(0, .aload_n 0, 1), (1, .getfield 49, 3), (4, .aload_n 0, 1), (5, .getfield 46, 3), (8, .if_icmp .ge 13, 3), (11, .aload_n 0, 1), (12, .dup, 1), (13, .getfield 49, 3), (16, .iconst 1, 1), (17, .iadd, 1), (18, .putfield 49, 3), (21, .return_, 1)]
theorem D_Text_step (i : Nat) {pc len : Nat} {ins : Instr} (hi : tb_Text_step[i]? = some (pc, ins, len)) : decode M_Text_step.2.1 pc = .ok (ins, len) := dec_of (by decide +kernel) i hi
def f_Text_step (G : GS) : Option (GS) :=
  if gi G 15 6 ≤ gi G 15 7 then
    some G
  else
    wG (si G 15 7 ((gi G 15 7) + 1)) fun G1 =>
    some G1
theorem c_Text_step {X : XT} {G : GS} {r : GS} (h : f_Text_step G = some r) : Call X true 6 0 0 M_Text_step [rf X 15] NC G (Rv r) := by
  refine Call_of_J cw_Text_step (by decide +kernel) (Nat.le_of_ble_eq_true rfl) ?_
  unfold f_Text_step at h
  show J X true 6 0 0 M_Text_step (Rv r) NC 0 0 0 [(0, rf X 15)] [] G
  refine j_aloadn (k := 0) (D_Text_step 0 rfl) rfl rfl ?_
  refine j_getI rfl fa_Text_49 kd_15 lc_15 (by decide) rfl (D_Text_step 1 rfl) ?_
  refine j_aloadn (k := 0) (D_Text_step 2 rfl) rfl rfl ?_
  refine j_getI rfl fa_Text_46 kd_15 lc_15 (by decide) rfl (D_Text_step 3 rfl) ?_
  refine j_ic_ge (tgt := 21) (D_Text_step 4 rfl) rfl (wr_gi _ _ _) (wr_gi _ _ _) (fun c1 => ?_) (fun c1 => ?_)
  · replace h := ite_t h c1
    exact j_vret (D_Text_step 11 rfl) rfl rfl rfl (leafV h)
  · replace h := ite_f h c1
    refine j_aloadn (k := 0) (D_Text_step 5 rfl) rfl rfl ?_
    refine j_dup (D_Text_step 6 rfl) rfl ?_
    refine j_getI rfl fa_Text_49 kd_15 lc_15 (by decide) rfl (D_Text_step 7 rfl) ?_
    refine j_iconst (v := 1) (D_Text_step 8 rfl) rfl ?_
    refine j_iadd (D_Text_step 9 rfl) ?_
    refine j_putI rfl fa_Text_49 kd_15 lc_15 (by decide) rfl (D_Text_step 10 rfl) ?_
    refine j_gen (fun G1 e1 => ?_)
    replace h := wG_at h e1
    exact j_vret (D_Text_step 11 rfl) rfl rfl rfl (leafV h)
abbrev M_Text_takeIf : MI := (⟨"InquestHall$Text", "takeIf", "(I)Z"⟩, prog_12_method_18_code, 2, (some .boolean))
theorem cw_Text_takeIf : Cond.code M_Text_takeIf.1 M_Text_takeIf.2.1 M_Text_takeIf.2.2.1 M_Text_takeIf.2.2.2 ∈ TS := mTS (List.mem_of_getElem? (i := 807) (by decide +kernel)) (by decide +kernel)
theorem lk_Text_94 : Cond.methodLink "InquestHall$Text" 94 M_Text_kind.1 ∈ TS := mTS (List.mem_of_getElem? (i := 808) (by decide +kernel)) (by decide +kernel)
theorem mok_Text_kind : MOK M_Text_kind 0 := ⟨mTS (List.mem_of_getElem? (i := 786) (by decide +kernel)) (by decide +kernel), mTS (List.mem_of_getElem? (i := 787) (by decide +kernel)) (by decide +kernel), mTS (List.mem_of_getElem? (i := 125) (by decide +kernel)) (by decide +kernel), cw_Text_kind, ⟨by decide, by decide, by decide +kernel⟩, by decide +kernel, by decide⟩
theorem lk_Text_97 : Cond.methodLink "InquestHall$Text" 97 M_Text_step.1 ∈ TS := mTS (List.mem_of_getElem? (i := 809) (by decide +kernel)) (by decide +kernel)
theorem mok_Text_step : MOK M_Text_step 0 := ⟨mTS (List.mem_of_getElem? (i := 810) (by decide +kernel)) (by decide +kernel), mTS (List.mem_of_getElem? (i := 811) (by decide +kernel)) (by decide +kernel), mTS (List.mem_of_getElem? (i := 125) (by decide +kernel)) (by decide +kernel), cw_Text_step, ⟨by decide, by decide, by decide +kernel⟩, by decide +kernel, by decide⟩
def tb_Text_takeIf : List (Nat × Instr × Nat) := [(0, .aload_n 0, 1), (1, .getfield 52, 3), (4, .ifCond .ne 11, 3), (7, .aload_n 0, 1), (8, .invokevirtual 94, 3), (11, .iload_n 1, 1), (12, .if_icmp .eq 5, 3), (15, .iconst 0, 1), (16, .ireturn, 1), (17, .aload_n 0, 1), (18, .invokevirtual 97, 3), (21, .iconst 1, 1), (22, .ireturn, 1)]
theorem D_Text_takeIf (i : Nat) {pc len : Nat} {ins : Instr} (hi : tb_Text_takeIf[i]? = some (pc, ins, len)) : decode M_Text_takeIf.2.1 pc = .ok (ins, len) := dec_of (by decide +kernel) i hi
def f_Text_takeIf (G : GS) (a1 : Int) : Option (Int × GS) :=
  if gi G 15 8 = 0 then
    (f_Text_kind G).bind fun q1 =>
    if q1 = a1 then
      (f_Text_step G).bind fun q2 =>
      some (1, q2)
    else
      some (0, G)
  else
    some (0, G)
theorem c_Text_takeIf {X : XT} {G : GS} {a1 : Int} {r : Int × GS} (ha1 : wr a1 = a1) (h : f_Text_takeIf G a1 = some r) : Call X true 7 0 0 M_Text_takeIf [rf X 15, vi a1] NC G (Rz r.1 r.2) := by
  refine Call_of_J cw_Text_takeIf (by decide +kernel) (Nat.le_of_ble_eq_true rfl) ?_
  unfold f_Text_takeIf at h
  show J X true 7 0 0 M_Text_takeIf (Rz r.1 r.2) NC 0 0 0 [(0, rf X 15), (1, vi a1)] [] G
  refine j_aloadn (k := 0) (D_Text_takeIf 0 rfl) rfl rfl ?_
  refine j_getI rfl fa_Text_52 kd_15 lc_15 (by decide) rfl (D_Text_takeIf 1 rfl) ?_
  refine j_if_ne (tgt := 15) (D_Text_takeIf 2 rfl) rfl (wr_gi _ _ _) (fun c1 => ?_) (fun c1 => ?_)
  · replace h := ite_f h c1
    refine j_iconst (v := 0) (D_Text_takeIf 7 rfl) rfl ?_
    exact j_zret (D_Text_takeIf 8 rfl) rfl (wr_lit rfl) (nz_01 (by decide)) rfl rfl (leafZ h (wr_n (wr_lit rfl)) (by decide))
  · replace h := ite_t h c1
    refine j_aloadn (k := 0) (D_Text_takeIf 3 rfl) rfl rfl ?_
    obtain ⟨q1, e1, h⟩ := Option.bind_eq_some_iff.mp h
    refine j_cVi (c_Text_kind e1) rfl lk_Text_94 mok_Text_kind kd_15 lc_15 rfl (by decide) rfl rfl (Nat.le_of_ble_eq_true rfl) (D_Text_takeIf 4 rfl) (fun w1 => ?_)
    refine j_iloadn (k := 1) (D_Text_takeIf 5 rfl) rfl rfl ?_
    refine j_ic_eq (tgt := 17) (D_Text_takeIf 6 rfl) rfl (w1) (ha1) (fun c2 => ?_) (fun c2 => ?_)
    · replace h := ite_t h c2
      refine j_aloadn (k := 0) (D_Text_takeIf 9 rfl) rfl rfl ?_
      obtain ⟨q2, e2, h⟩ := Option.bind_eq_some_iff.mp h
      refine j_cVv (c_Text_step e2) rfl lk_Text_97 mok_Text_step kd_15 lc_15 rfl (by decide) rfl rfl (Nat.le_of_ble_eq_true rfl) (D_Text_takeIf 10 rfl) ?_
      refine j_iconst (v := 1) (D_Text_takeIf 11 rfl) rfl ?_
      exact j_zret (D_Text_takeIf 12 rfl) rfl (wr_lit rfl) (nz_01 (by decide)) rfl rfl (leafZ h (wr_n (wr_lit rfl)) (by decide))
    · replace h := ite_f h c2
      refine j_iconst (v := 0) (D_Text_takeIf 7 rfl) rfl ?_
      exact j_zret (D_Text_takeIf 8 rfl) rfl (wr_lit rfl) (nz_01 (by decide)) rfl rfl (leafZ h (wr_n (wr_lit rfl)) (by decide))
abbrev M_Text_take : MI := (⟨"InquestHall$Text", "take", "(I)V"⟩, prog_12_method_17_code, 2, none)
theorem cw_Text_take : Cond.code M_Text_take.1 M_Text_take.2.1 M_Text_take.2.2.1 M_Text_take.2.2.2 ∈ TS := mTS (List.mem_of_getElem? (i := 803) (by decide +kernel)) (by decide +kernel)
theorem lk_Text_87 : Cond.methodLink "InquestHall$Text" 87 M_Text_takeIf.1 ∈ TS := mTS (List.mem_of_getElem? (i := 804) (by decide +kernel)) (by decide +kernel)
theorem mok_Text_takeIf : MOK M_Text_takeIf 1 := ⟨mTS (List.mem_of_getElem? (i := 805) (by decide +kernel)) (by decide +kernel), mTS (List.mem_of_getElem? (i := 806) (by decide +kernel)) (by decide +kernel), mTS (List.mem_of_getElem? (i := 125) (by decide +kernel)) (by decide +kernel), cw_Text_takeIf, ⟨by decide, by decide, by decide +kernel⟩, by decide +kernel, by decide⟩
theorem lk_Text_90 : Cond.methodLink "InquestHall$Text" 90 M_Text_fail.1 ∈ TS := mTS (List.mem_of_getElem? (i := 813) (by decide +kernel)) (by decide +kernel)
theorem mok_Text_fail : MOK M_Text_fail 1 := ⟨mTS (List.mem_of_getElem? (i := 793) (by decide +kernel)) (by decide +kernel), mTS (List.mem_of_getElem? (i := 794) (by decide +kernel)) (by decide +kernel), mTS (List.mem_of_getElem? (i := 125) (by decide +kernel)) (by decide +kernel), cw_Text_fail, ⟨by decide, by decide, by decide +kernel⟩, by decide +kernel, by decide⟩
def tb_Text_take : List (Nat × Instr × Nat) := [(0, .aload_n 0, 1), (1, .getfield 52, 3), (4, .ifCond .ne 16, 3), (7, .aload_n 0, 1), (8, .iload_n 1, 1), (9, .invokevirtual 87, 3), (12, .ifCond .ne 8, 3), (15, .aload_n 0, 1), (16, .iconst 1, 1), (17, .invokevirtual 90, 3), (20, .return_, 1)]
theorem D_Text_take (i : Nat) {pc len : Nat} {ins : Instr} (hi : tb_Text_take[i]? = some (pc, ins, len)) : decode M_Text_take.2.1 pc = .ok (ins, len) := dec_of (by decide +kernel) i hi
def f_Text_take (G : GS) (a1 : Int) : Option (GS) :=
  if gi G 15 8 = 0 then
    (f_Text_takeIf G a1).bind fun q1 =>
    if q1.1 = 0 then
      (f_Text_fail q1.2 1).bind fun q2 =>
      some q2
    else
      some q1.2
  else
    some G
theorem c_Text_take {X : XT} {G : GS} {a1 : Int} {r : GS} (ha1 : wr a1 = a1) (h : f_Text_take G a1 = some r) : Call X true 8 0 0 M_Text_take [rf X 15, vi a1] NC G (Rv r) := by
  refine Call_of_J cw_Text_take (by decide +kernel) (Nat.le_of_ble_eq_true rfl) ?_
  unfold f_Text_take at h
  show J X true 8 0 0 M_Text_take (Rv r) NC 0 0 0 [(0, rf X 15), (1, vi a1)] [] G
  refine j_aloadn (k := 0) (D_Text_take 0 rfl) rfl rfl ?_
  refine j_getI rfl fa_Text_52 kd_15 lc_15 (by decide) rfl (D_Text_take 1 rfl) ?_
  refine j_if_ne (tgt := 20) (D_Text_take 2 rfl) rfl (wr_gi _ _ _) (fun c1 => ?_) (fun c1 => ?_)
  · replace h := ite_f h c1
    exact j_vret (D_Text_take 10 rfl) rfl rfl rfl (leafV h)
  · replace h := ite_t h c1
    refine j_aloadn (k := 0) (D_Text_take 3 rfl) rfl rfl ?_
    refine j_iloadn (k := 1) (D_Text_take 4 rfl) rfl rfl ?_
    obtain ⟨q1, e1, h⟩ := Option.bind_eq_some_iff.mp h
    refine j_cVz (c_Text_takeIf (ha1) e1) rfl lk_Text_87 mok_Text_takeIf kd_15 lc_15 rfl (by decide) rfl rfl (Nat.le_of_ble_eq_true rfl) (D_Text_take 5 rfl) (fun w1 bw1 => ?_)
    refine j_if_ne (tgt := 20) (D_Text_take 6 rfl) rfl (w1) (fun c2 => ?_) (fun c2 => ?_)
    · replace h := ite_f h c2
      exact j_vret (D_Text_take 10 rfl) rfl rfl rfl (leafV h)
    · replace h := ite_t h c2
      refine j_aloadn (k := 0) (D_Text_take 7 rfl) rfl rfl ?_
      refine j_iconst (v := 1) (D_Text_take 8 rfl) rfl ?_
      obtain ⟨q2, e2, h⟩ := Option.bind_eq_some_iff.mp h
      refine j_cVv (c_Text_fail (wr_lit rfl) e2) rfl lk_Text_90 mok_Text_fail kd_15 lc_15 rfl (by decide) rfl rfl (Nat.le_of_ble_eq_true rfl) (D_Text_take 9 rfl) ?_
      exact j_vret (D_Text_take 10 rfl) rfl rfl rfl (leafV h)
