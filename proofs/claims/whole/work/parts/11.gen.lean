/-! printed by wip/whole/gen.py out of the listing of the bytecode -/
abbrev M_Hall_born : MI := (⟨"InquestHall", "born", "(III)Z"⟩, prog_1_method_7_code, 4, (some .boolean))
theorem cw_Hall_born : Cond.code M_Hall_born.1 M_Hall_born.2.1 M_Hall_born.2.2.1 M_Hall_born.2.2.2 ∈ TS := mTS (List.mem_of_getElem? (i := 690) (by decide +kernel)) (by decide +kernel)
theorem fa_Hall_144 : FA "InquestHall" 144 1 4 true (.array .int) := ⟨_, _, _, _, ok_People, by decide, mTS (List.mem_of_getElem? (i := 168) (by decide +kernel)) (by decide +kernel), rfl, rfl⟩
def tb_Hall_born : List (Nat × Instr × Nat) := [(0, .aload_n 0, 1), (1, .getfield 12, 3), (4, .iload_n 1, 1), (5, .invokevirtual 122, 3), (8, .ifCond .eq 36, 3), (11, .aload_n 0, 1), (12, .iload_n 2, 1), (13, .iload_n 3, 1), (14, .invokevirtual 114, 3), (17, .ifCond .eq 27, 3), (20, .aload_n 0, 1), (21, .getfield 12, 3), (24, .iload_n 1, 1), (25, .invokevirtual 125, 3), (28, .ifCond .eq 18, 3), (31, .aload_n 0, 1), (32, .getfield 12, 3), (35, .getfield 131, 3), (38, .iload_n 1, 1), (39, .iaload, 1), (40, .iload_n 2, 1), (41, .if_icmp .ge 5, 3), (44, .iconst 0, 1), (45, .ireturn, 1), (46, .aload_n 0, 1), (47, .getfield 12, 3), (50, .getfield 128, 3), (53, .iload_n 1, 1), (54, .iload_n 2, 1), (55, .iastore, 1), (56, .aload_n 0, 1), (57, .getfield 12, 3), (60, .getfield 144, 3), (63, .iload_n 1, 1), (64, .iload_n 3, 1), (65, .iastore, 1), (66, .iconst 1, 1), (67, .ireturn, 1)]
theorem D_Hall_born (i : Nat) {pc len : Nat} {ins : Instr} (hi : tb_Hall_born[i]? = some (pc, ins, len)) : decode M_Hall_born.2.1 pc = .ok (ins, len) := dec_of (by decide +kernel) i hi
def f_Hall_born_L46 (G : GS) (x1 : Int) (x2 : Int) (x3 : Int) : Option (Int × GS) :=
  gd (0 ≤ x1 ∧ x1 < 32) <|
  wG (si G 5 x1.toNat x2) fun G1 =>
  gd (0 ≤ x1 ∧ x1 < 32) <|
  wG (si G1 6 x1.toNat x3) fun G2 =>
  some (1, G2)
theorem s_Hall_born_L46 {X : XT} {r : Int × GS} : ∀ {G : GS} {x1 : Int} {x2 : Int} {x3 : Int}, wr x1 = x1 → wr x2 = x2 → wr x3 = x3 → f_Hall_born_L46 G x1 x2 x3 = some r → J X true 8 0 0 M_Hall_born (Rz r.1 r.2) NC 0 0 46 [(0, rf X 0), (1, vi x1), (2, vi x2), (3, vi x3)] [] G := by
  intro G x1 x2 x3 hx1 hx2 hx3 h
  unfold f_Hall_born_L46 at h
  refine j_aloadn (k := 0) (D_Hall_born 24 rfl) rfl rfl ?_
  refine j_getR rfl fa_Hall_12 kd_0 lc_0 (by decide) rfl fx_0_0 (by decide) (D_Hall_born 25 rfl) ?_
  refine j_getR rfl fa_Hall_128 kd_1 lc_1 (by decide) rfl fx_1_3 (by decide) (D_Hall_born 26 rfl) ?_
  refine j_iloadn (k := 1) (D_Hall_born 27 rfl) rfl rfl ?_
  refine j_iloadn (k := 2) (D_Hall_born 28 rfl) rfl rfl ?_
  have g1 := gd_c h
  replace h := gd_s h
  refine j_iast (NI := 32) (D_Hall_born 29 rfl) kd_5 lc_5 (hx1) rfl g1.1 g1.2 ?_
  refine j_gen (fun G1 e1 => ?_)
  replace h := wG_at h e1
  refine j_aloadn (k := 0) (D_Hall_born 30 rfl) rfl rfl ?_
  refine j_getR rfl fa_Hall_12 kd_0 lc_0 (by decide) rfl fx_0_0 (by decide) (D_Hall_born 31 rfl) ?_
  refine j_getR rfl fa_Hall_144 kd_1 lc_1 (by decide) rfl fx_1_4 (by decide) (D_Hall_born 32 rfl) ?_
  refine j_iloadn (k := 1) (D_Hall_born 33 rfl) rfl rfl ?_
  refine j_iloadn (k := 3) (D_Hall_born 34 rfl) rfl rfl ?_
  have g2 := gd_c h
  replace h := gd_s h
  refine j_iast (NI := 32) (D_Hall_born 35 rfl) kd_6 lc_6 (hx1) rfl g2.1 g2.2 ?_
  refine j_gen (fun G2 e2 => ?_)
  replace h := wG_at h e2
  refine j_iconst (v := 1) (D_Hall_born 36 rfl) rfl ?_
  exact j_zret (D_Hall_born 37 rfl) rfl (wr_lit rfl) (nz_01 (by decide)) rfl rfl (leafZ h (wr_n (wr_lit rfl)) (by decide))
def f_Hall_born (G : GS) (a1 : Int) (a2 : Int) (a3 : Int) : Option (Int × GS) :=
  (f_People_has G a1).bind fun q1 =>
  if q1 = 0 then
    some (0, G)
  else
    (f_Hall_isBirth G a2 a3).bind fun q2 =>
    if q2 = 0 then
      some (0, G)
    else
      (f_People_isDead G a1).bind fun q3 =>
      if q3 = 0 then
        f_Hall_born_L46 G a1 a2 a3
      else
        gd (0 ≤ a1 ∧ a1 < 32) <|
        if a2 ≤ gi G 7 a1.toNat then
          f_Hall_born_L46 G a1 a2 a3
        else
          some (0, G)
theorem c_Hall_born {X : XT} {G : GS} {a1 : Int} {a2 : Int} {a3 : Int} {r : Int × GS} (ha1 : wr a1 = a1) (ha2 : wr a2 = a2) (ha3 : wr a3 = a3) (h : f_Hall_born G a1 a2 a3 = some r) : Call X true 8 0 0 M_Hall_born [rf X 0, vi a1, vi a2, vi a3] NC G (Rz r.1 r.2) := by
  refine Call_of_J cw_Hall_born (by decide +kernel) (Nat.le_of_ble_eq_true rfl) ?_
  unfold f_Hall_born at h
  show J X true 8 0 0 M_Hall_born (Rz r.1 r.2) NC 0 0 0 [(0, rf X 0), (1, vi a1), (2, vi a2), (3, vi a3)] [] G
  refine j_aloadn (k := 0) (D_Hall_born 0 rfl) rfl rfl ?_
  refine j_getR rfl fa_Hall_12 kd_0 lc_0 (by decide) rfl fx_0_0 (by decide) (D_Hall_born 1 rfl) ?_
  refine j_iloadn (k := 1) (D_Hall_born 2 rfl) rfl rfl ?_
  obtain ⟨q1, e1, h⟩ := Option.bind_eq_some_iff.mp h
  refine j_cVz (c_People_has (ha1) e1) rfl lk_Hall_122 mok_People_has kd_1 lc_1 rfl (by decide) rfl rfl (Nat.le_of_ble_eq_true rfl) (D_Hall_born 3 rfl) (fun w1 bw1 => ?_)
  refine j_if_eq (tgt := 44) (D_Hall_born 4 rfl) rfl (w1) (fun c1 => ?_) (fun c1 => ?_)
  · replace h := ite_t h c1
    refine j_iconst (v := 0) (D_Hall_born 22 rfl) rfl ?_
    exact j_zret (D_Hall_born 23 rfl) rfl (wr_lit rfl) (nz_01 (by decide)) rfl rfl (leafZ h (wr_n (wr_lit rfl)) (by decide))
  · replace h := ite_f h c1
    refine j_aloadn (k := 0) (D_Hall_born 5 rfl) rfl rfl ?_
    refine j_iloadn (k := 2) (D_Hall_born 6 rfl) rfl rfl ?_
    refine j_iloadn (k := 3) (D_Hall_born 7 rfl) rfl rfl ?_
    obtain ⟨q2, e2, h⟩ := Option.bind_eq_some_iff.mp h
    refine j_cVz (c_Hall_isBirth (ha2) (ha3) e2) rfl lk_Hall_114 mok_Hall_isBirth kd_0 lc_0 rfl (by decide) rfl rfl (Nat.le_of_ble_eq_true rfl) (D_Hall_born 8 rfl) (fun w2 bw2 => ?_)
    refine j_if_eq (tgt := 44) (D_Hall_born 9 rfl) rfl (w2) (fun c2 => ?_) (fun c2 => ?_)
    · replace h := ite_t h c2
      refine j_iconst (v := 0) (D_Hall_born 22 rfl) rfl ?_
      exact j_zret (D_Hall_born 23 rfl) rfl (wr_lit rfl) (nz_01 (by decide)) rfl rfl (leafZ h (wr_n (wr_lit rfl)) (by decide))
    · replace h := ite_f h c2
      refine j_aloadn (k := 0) (D_Hall_born 10 rfl) rfl rfl ?_
      refine j_getR rfl fa_Hall_12 kd_0 lc_0 (by decide) rfl fx_0_0 (by decide) (D_Hall_born 11 rfl) ?_
      refine j_iloadn (k := 1) (D_Hall_born 12 rfl) rfl rfl ?_
      obtain ⟨q3, e3, h⟩ := Option.bind_eq_some_iff.mp h
      refine j_cVz (c_People_isDead (ha1) e3) rfl lk_Hall_125 mok_People_isDead kd_1 lc_1 rfl (by decide) rfl rfl (Nat.le_of_ble_eq_true rfl) (D_Hall_born 13 rfl) (fun w3 bw3 => ?_)
      refine j_if_eq (tgt := 46) (D_Hall_born 14 rfl) rfl (w3) (fun c3 => ?_) (fun c3 => ?_)
      · replace h := ite_t h c3
        refine j_loc [0, 1, 2, 3] rfl ?_
        exact s_Hall_born_L46 (ha1) (ha2) (ha3) h
      · replace h := ite_f h c3
        refine j_aloadn (k := 0) (D_Hall_born 15 rfl) rfl rfl ?_
        refine j_getR rfl fa_Hall_12 kd_0 lc_0 (by decide) rfl fx_0_0 (by decide) (D_Hall_born 16 rfl) ?_
        refine j_getR rfl fa_Hall_131 kd_1 lc_1 (by decide) rfl fx_1_5 (by decide) (D_Hall_born 17 rfl) ?_
        refine j_iloadn (k := 1) (D_Hall_born 18 rfl) rfl rfl ?_
        have g1 := gd_c h
        replace h := gd_s h
        refine j_iald (NI := 32) (D_Hall_born 19 rfl) kd_7 lc_7 (ha1) rfl g1.1 g1.2 ?_
        refine j_iloadn (k := 2) (D_Hall_born 20 rfl) rfl rfl ?_
        refine j_ic_ge (tgt := 46) (D_Hall_born 21 rfl) rfl (wr_gi _ _ _) (ha2) (fun c4 => ?_) (fun c4 => ?_)
        · replace h := ite_t h c4
          refine j_loc [0, 1, 2, 3] rfl ?_
          exact s_Hall_born_L46 (ha1) (ha2) (ha3) h
        · replace h := ite_f h c4
          refine j_iconst (v := 0) (D_Hall_born 22 rfl) rfl ?_
          exact j_zret (D_Hall_born 23 rfl) rfl (wr_lit rfl) (nz_01 (by decide)) rfl rfl (leafZ h (wr_n (wr_lit rfl)) (by decide))
abbrev M_Model_born : MI := (⟨"InquestHallModel", "born", "(III)Z"⟩, prog_14_method_12_code, 4, (some .boolean))
theorem cw_Model_born : Cond.code M_Model_born.1 M_Model_born.2.1 M_Model_born.2.2.1 M_Model_born.2.2.2 ∈ TS := mTS (List.mem_of_getElem? (i := 1605) (by decide +kernel)) (by decide +kernel)
def tb_Model_born : List (Nat × Instr × Nat) := [(0, .aload_n 0, 1), (1, .iload_n 1, 1), (2, .invokevirtual 198, 3), (5, .ifCond .eq 32, 3), (8, .aload_n 0, 1), (9, .iload_n 2, 1), (10, .iload_n 3, 1), (11, .invokevirtual 209, 3), (14, .ifCond .eq 23, 3), (17, .aload_n 0, 1), (18, .getfield 25, 3), (21, .iload_n 1, 1), (22, .iaload, 1), (23, .iconst (-1), 1), (24, .if_icmp .eq 15, 3), (27, .iload_n 2, 1), (28, .aload_n 0, 1), (29, .getfield 25, 3), (32, .iload_n 1, 1), (33, .iaload, 1), (34, .if_icmp .le 5, 3), (37, .iconst 0, 1), (38, .ireturn, 1), (39, .aload_n 0, 1), (40, .getfield 19, 3), (43, .iload_n 1, 1), (44, .iload_n 2, 1), (45, .iastore, 1), (46, .aload_n 0, 1), (47, .getfield 22, 3), (50, .iload_n 1, 1), (51, .iload_n 3, 1), (52, .iastore, 1), (53, .iconst 1, 1), (54, .ireturn, 1)]
theorem D_Model_born (i : Nat) {pc len : Nat} {ins : Instr} (hi : tb_Model_born[i]? = some (pc, ins, len)) : decode M_Model_born.2.1 pc = .ok (ins, len) := dec_of (by decide +kernel) i hi
def f_Model_born_L39 (G : GS) (x1 : Int) (x2 : Int) (x3 : Int) : Option (Int × GS) :=
  gd (0 ≤ x1 ∧ x1 < 32) <|
  wG (si G 85 x1.toNat x2) fun G1 =>
  gd (0 ≤ x1 ∧ x1 < 32) <|
  wG (si G1 86 x1.toNat x3) fun G2 =>
  some (1, G2)
theorem s_Model_born_L39 {X : XT} {r : Int × GS} : ∀ {G : GS} {x1 : Int} {x2 : Int} {x3 : Int}, wr x1 = x1 → wr x2 = x2 → wr x3 = x3 → f_Model_born_L39 G x1 x2 x3 = some r → J X true 9 0 0 M_Model_born (Rz r.1 r.2) NC 0 0 39 [(0, rf X 81), (1, vi x1), (2, vi x2), (3, vi x3)] [] G := by
  intro G x1 x2 x3 hx1 hx2 hx3 h
  unfold f_Model_born_L39 at h
  refine j_aloadn (k := 0) (D_Model_born 23 rfl) rfl rfl ?_
  refine j_getR rfl fa_Model_19 kd_81 lc_81 (by decide) rfl fx_81_5 (by decide) (D_Model_born 24 rfl) ?_
  refine j_iloadn (k := 1) (D_Model_born 25 rfl) rfl rfl ?_
  refine j_iloadn (k := 2) (D_Model_born 26 rfl) rfl rfl ?_
  have g1 := gd_c h
  replace h := gd_s h
  refine j_iast (NI := 32) (D_Model_born 27 rfl) kd_85 lc_85 (hx1) rfl g1.1 g1.2 ?_
  refine j_gen (fun G1 e1 => ?_)
  replace h := wG_at h e1
  refine j_aloadn (k := 0) (D_Model_born 28 rfl) rfl rfl ?_
  refine j_getR rfl fa_Model_22 kd_81 lc_81 (by decide) rfl fx_81_6 (by decide) (D_Model_born 29 rfl) ?_
  refine j_iloadn (k := 1) (D_Model_born 30 rfl) rfl rfl ?_
  refine j_iloadn (k := 3) (D_Model_born 31 rfl) rfl rfl ?_
  have g2 := gd_c h
  replace h := gd_s h
  refine j_iast (NI := 32) (D_Model_born 32 rfl) kd_86 lc_86 (hx1) rfl g2.1 g2.2 ?_
  refine j_gen (fun G2 e2 => ?_)
  replace h := wG_at h e2
  refine j_iconst (v := 1) (D_Model_born 33 rfl) rfl ?_
  exact j_zret (D_Model_born 34 rfl) rfl (wr_lit rfl) (nz_01 (by decide)) rfl rfl (leafZ h (wr_n (wr_lit rfl)) (by decide))
def f_Model_born (G : GS) (a1 : Int) (a2 : Int) (a3 : Int) : Option (Int × GS) :=
  (f_Model_isPerson G a1).bind fun q1 =>
  if q1 = 0 then
    some (0, G)
  else
    (f_Model_isSpan G a2 a3).bind fun q2 =>
    if q2 = 0 then
      some (0, G)
    else
      gd (0 ≤ a1 ∧ a1 < 32) <|
      if gi G 87 a1.toNat = (-1) then
        f_Model_born_L39 G a1 a2 a3
      else
        gd (0 ≤ a1 ∧ a1 < 32) <|
        if a2 ≤ gi G 87 a1.toNat then
          f_Model_born_L39 G a1 a2 a3
        else
          some (0, G)
theorem c_Model_born {X : XT} {G : GS} {a1 : Int} {a2 : Int} {a3 : Int} {r : Int × GS} (ha1 : wr a1 = a1) (ha2 : wr a2 = a2) (ha3 : wr a3 = a3) (h : f_Model_born G a1 a2 a3 = some r) : Call X true 9 0 0 M_Model_born [rf X 81, vi a1, vi a2, vi a3] NC G (Rz r.1 r.2) := by
  refine Call_of_J cw_Model_born (by decide +kernel) (Nat.le_of_ble_eq_true rfl) ?_
  unfold f_Model_born at h
  show J X true 9 0 0 M_Model_born (Rz r.1 r.2) NC 0 0 0 [(0, rf X 81), (1, vi a1), (2, vi a2), (3, vi a3)] [] G
  refine j_aloadn (k := 0) (D_Model_born 0 rfl) rfl rfl ?_
  refine j_iloadn (k := 1) (D_Model_born 1 rfl) rfl rfl ?_
  obtain ⟨q1, e1, h⟩ := Option.bind_eq_some_iff.mp h
  refine j_cVz (c_Model_isPerson (ha1) e1) rfl lk_Model_198 mok_Model_isPerson kd_81 lc_81 rfl (by decide) rfl rfl (Nat.le_of_ble_eq_true rfl) (D_Model_born 2 rfl) (fun w1 bw1 => ?_)
  refine j_if_eq (tgt := 37) (D_Model_born 3 rfl) rfl (w1) (fun c1 => ?_) (fun c1 => ?_)
  · replace h := ite_t h c1
    refine j_iconst (v := 0) (D_Model_born 21 rfl) rfl ?_
    exact j_zret (D_Model_born 22 rfl) rfl (wr_lit rfl) (nz_01 (by decide)) rfl rfl (leafZ h (wr_n (wr_lit rfl)) (by decide))
  · replace h := ite_f h c1
    refine j_aloadn (k := 0) (D_Model_born 4 rfl) rfl rfl ?_
    refine j_iloadn (k := 2) (D_Model_born 5 rfl) rfl rfl ?_
    refine j_iloadn (k := 3) (D_Model_born 6 rfl) rfl rfl ?_
    obtain ⟨q2, e2, h⟩ := Option.bind_eq_some_iff.mp h
    refine j_cVz (c_Model_isSpan (ha2) (ha3) e2) rfl lk_Model_209 mok_Model_isSpan kd_81 lc_81 rfl (by decide) rfl rfl (Nat.le_of_ble_eq_true rfl) (D_Model_born 7 rfl) (fun w2 bw2 => ?_)
    refine j_if_eq (tgt := 37) (D_Model_born 8 rfl) rfl (w2) (fun c2 => ?_) (fun c2 => ?_)
    · replace h := ite_t h c2
      refine j_iconst (v := 0) (D_Model_born 21 rfl) rfl ?_
      exact j_zret (D_Model_born 22 rfl) rfl (wr_lit rfl) (nz_01 (by decide)) rfl rfl (leafZ h (wr_n (wr_lit rfl)) (by decide))
    · replace h := ite_f h c2
      refine j_aloadn (k := 0) (D_Model_born 9 rfl) rfl rfl ?_
      refine j_getR rfl fa_Model_25 kd_81 lc_81 (by decide) rfl fx_81_7 (by decide) (D_Model_born 10 rfl) ?_
      refine j_iloadn (k := 1) (D_Model_born 11 rfl) rfl rfl ?_
      have g1 := gd_c h
      replace h := gd_s h
      refine j_iald (NI := 32) (D_Model_born 12 rfl) kd_87 lc_87 (ha1) rfl g1.1 g1.2 ?_
      refine j_iconst (v := (-1)) (D_Model_born 13 rfl) rfl ?_
      refine j_ic_eq (tgt := 39) (D_Model_born 14 rfl) rfl (wr_gi _ _ _) (wr_lit rfl) (fun c3 => ?_) (fun c3 => ?_)
      · replace h := ite_t h c3
        refine j_loc [0, 1, 2, 3] rfl ?_
        exact s_Model_born_L39 (ha1) (ha2) (ha3) h
      · replace h := ite_f h c3
        refine j_iloadn (k := 2) (D_Model_born 15 rfl) rfl rfl ?_
        refine j_aloadn (k := 0) (D_Model_born 16 rfl) rfl rfl ?_
        refine j_getR rfl fa_Model_25 kd_81 lc_81 (by decide) rfl fx_81_7 (by decide) (D_Model_born 17 rfl) ?_
        refine j_iloadn (k := 1) (D_Model_born 18 rfl) rfl rfl ?_
        have g2 := gd_c h
        replace h := gd_s h
        refine j_iald (NI := 32) (D_Model_born 19 rfl) kd_87 lc_87 (ha1) rfl g2.1 g2.2 ?_
        refine j_ic_le (tgt := 39) (D_Model_born 20 rfl) rfl (ha2) (wr_gi _ _ _) (fun c4 => ?_) (fun c4 => ?_)
        · replace h := ite_t h c4
          refine j_loc [0, 1, 2, 3] rfl ?_
          exact s_Model_born_L39 (ha1) (ha2) (ha3) h
        · replace h := ite_f h c4
          refine j_iconst (v := 0) (D_Model_born 21 rfl) rfl ?_
          exact j_zret (D_Model_born 22 rfl) rfl (wr_lit rfl) (nz_01 (by decide)) rfl rfl (leafZ h (wr_n (wr_lit rfl)) (by decide))
abbrev M_Lands_add : MI := (⟨"InquestHall$Lands", "add", "(III)I"⟩, prog_4_method_2_code, 4, (some .int))
theorem cw_Lands_add : Cond.code M_Lands_add.1 M_Lands_add.2.1 M_Lands_add.2.2.1 M_Lands_add.2.2.2 ∈ TS := mTS (List.mem_of_getElem? (i := 698) (by decide +kernel)) (by decide +kernel)
theorem fa_Lands_27 : FA "InquestHall$Lands" 27 2 5 false .int := ⟨_, _, _, _, ok_Lands, by decide, mTS (List.mem_of_getElem? (i := 210) (by decide +kernel)) (by decide +kernel), rfl, rfl⟩
theorem kd_9 : kd 9 = (2 + 5, 9) := rfl
theorem lc_9 : 9 < NC := by decide
theorem fa_Lands_11 : FA "InquestHall$Lands" 11 2 0 true (.array .int) := ⟨_, _, _, _, ok_Lands, by decide, mTS (List.mem_of_getElem? (i := 200) (by decide +kernel)) (by decide +kernel), rfl, rfl⟩
theorem fx_9_0 {G : GS} (w : WF true NC G) : G.2.2 9 0 = 10 := w.2 rfl (9, 0, 10) (by decide)
theorem kd_10 : kd 10 = (0, 12) := rfl
theorem lc_10 : 10 < NC := by decide
theorem fa_Lands_15 : FA "InquestHall$Lands" 15 2 1 true (.array .int) := ⟨_, _, _, _, ok_Lands, by decide, mTS (List.mem_of_getElem? (i := 202) (by decide +kernel)) (by decide +kernel), rfl, rfl⟩
theorem fx_9_1 {G : GS} (w : WF true NC G) : G.2.2 9 1 = 11 := w.2 rfl (9, 1, 11) (by decide)
theorem kd_11 : kd 11 = (0, 12) := rfl
theorem lc_11 : 11 < NC := by decide
theorem fa_Lands_18 : FA "InquestHall$Lands" 18 2 2 true (.array .int) := ⟨_, _, _, _, ok_Lands, by decide, mTS (List.mem_of_getElem? (i := 204) (by decide +kernel)) (by decide +kernel), rfl, rfl⟩
theorem fx_9_2 {G : GS} (w : WF true NC G) : G.2.2 9 2 = 12 := w.2 rfl (9, 2, 12) (by decide)
theorem kd_12 : kd 12 = (0, 12) := rfl
theorem lc_12 : 12 < NC := by decide
def tb_Lands_add : List (Nat × Instr × Nat) := [(0, .aload_n 0, 1), (1, .getfield 27, 3), (4, .bipush 12, 2), (6, .if_icmp .lt 5, 3), (9, .iconst (-1), 1), (10, .ireturn, 1), (11, .aload_n 0, 1), (12, .getfield 11, 3), (15, .aload_n 0, 1), (16, .getfield 27, 3), (19, .iload_n 1, 1), (20, .iastore, 1), (21, .aload_n 0, 1), (22, .getfield 15, 3), (25, .aload_n 0, 1), (26, .getfield 27, 3), (29, .iload_n 2, 1), (30, .iastore, 1), (31, .aload_n 0, 1), (32, .getfield 18, 3), (35, .aload_n 0, 1), (36, .getfield 27, 3), (39, .iload_n 3, 1), (40, .iastore, 1), (41, .aload_n 0, 1), (42, .dup, 1), (43, .getfield 27, 3), (46, .iconst 1, 1), (47, .iadd, 1), (48, .putfield 27, 3), (51, .aload_n 0, 1), (52, .getfield 27, 3), (55, .iconst 1, 1), (56, .isub, 1), (57, .ireturn, 1)]
theorem D_Lands_add (i : Nat) {pc len : Nat} {ins : Instr} (hi : tb_Lands_add[i]? = some (pc, ins, len)) : decode M_Lands_add.2.1 pc = .ok (ins, len) := dec_of (by decide +kernel) i hi
def f_Lands_add (G : GS) (a1 : Int) (a2 : Int) (a3 : Int) : Option (Int × GS) :=
  if gi G 9 5 < 12 then
    gd (0 ≤ gi G 9 5 ∧ gi G 9 5 < 12) <|
    wG (si G 10 (gi G 9 5).toNat a1) fun G1 =>
    gd (0 ≤ gi G1 9 5 ∧ gi G1 9 5 < 12) <|
    wG (si G1 11 (gi G1 9 5).toNat a2) fun G2 =>
    gd (0 ≤ gi G2 9 5 ∧ gi G2 9 5 < 12) <|
    wG (si G2 12 (gi G2 9 5).toNat a3) fun G3 =>
    wG (si G3 9 5 ((gi G3 9 5) + 1)) fun G4 =>
    some (wr ((gi G4 9 5) - 1), G4)
  else
    some ((-1), G)
theorem c_Lands_add {X : XT} {G : GS} {a1 : Int} {a2 : Int} {a3 : Int} {r : Int × GS} (ha1 : wr a1 = a1) (ha2 : wr a2 = a2) (ha3 : wr a3 = a3) (h : f_Lands_add G a1 a2 a3 = some r) : Call X true 6 0 0 M_Lands_add [rf X 9, vi a1, vi a2, vi a3] NC G (Ri r.1 r.2) := by
  refine Call_of_J cw_Lands_add (by decide +kernel) (Nat.le_of_ble_eq_true rfl) ?_
  unfold f_Lands_add at h
  show J X true 6 0 0 M_Lands_add (Ri r.1 r.2) NC 0 0 0 [(0, rf X 9), (1, vi a1), (2, vi a2), (3, vi a3)] [] G
  refine j_aloadn (k := 0) (D_Lands_add 0 rfl) rfl rfl ?_
  refine j_getI rfl fa_Lands_27 kd_9 lc_9 (by decide) rfl (D_Lands_add 1 rfl) ?_
  refine j_bipush (v := 12) (D_Lands_add 2 rfl) rfl ?_
  refine j_ic_lt (tgt := 11) (D_Lands_add 3 rfl) rfl (wr_gi _ _ _) (wr_lit rfl) (fun c1 => ?_) (fun c1 => ?_)
  · replace h := ite_t h c1
    refine j_aloadn (k := 0) (D_Lands_add 6 rfl) rfl rfl ?_
    refine j_getR rfl fa_Lands_11 kd_9 lc_9 (by decide) rfl fx_9_0 (by decide) (D_Lands_add 7 rfl) ?_
    refine j_aloadn (k := 0) (D_Lands_add 8 rfl) rfl rfl ?_
    refine j_getI rfl fa_Lands_27 kd_9 lc_9 (by decide) rfl (D_Lands_add 9 rfl) ?_
    refine j_iloadn (k := 1) (D_Lands_add 10 rfl) rfl rfl ?_
    have g1 := gd_c h
    replace h := gd_s h
    refine j_iast (NI := 12) (D_Lands_add 11 rfl) kd_10 lc_10 (wr_gi _ _ _) rfl g1.1 g1.2 ?_
    refine j_gen (fun G1 e1 => ?_)
    replace h := wG_at h e1
    refine j_aloadn (k := 0) (D_Lands_add 12 rfl) rfl rfl ?_
    refine j_getR rfl fa_Lands_15 kd_9 lc_9 (by decide) rfl fx_9_1 (by decide) (D_Lands_add 13 rfl) ?_
    refine j_aloadn (k := 0) (D_Lands_add 14 rfl) rfl rfl ?_
    refine j_getI rfl fa_Lands_27 kd_9 lc_9 (by decide) rfl (D_Lands_add 15 rfl) ?_
    refine j_iloadn (k := 2) (D_Lands_add 16 rfl) rfl rfl ?_
    have g2 := gd_c h
    replace h := gd_s h
    refine j_iast (NI := 12) (D_Lands_add 17 rfl) kd_11 lc_11 (wr_gi _ _ _) rfl g2.1 g2.2 ?_
    refine j_gen (fun G2 e2 => ?_)
    replace h := wG_at h e2
    refine j_aloadn (k := 0) (D_Lands_add 18 rfl) rfl rfl ?_
    refine j_getR rfl fa_Lands_18 kd_9 lc_9 (by decide) rfl fx_9_2 (by decide) (D_Lands_add 19 rfl) ?_
    refine j_aloadn (k := 0) (D_Lands_add 20 rfl) rfl rfl ?_
    refine j_getI rfl fa_Lands_27 kd_9 lc_9 (by decide) rfl (D_Lands_add 21 rfl) ?_
    refine j_iloadn (k := 3) (D_Lands_add 22 rfl) rfl rfl ?_
    have g3 := gd_c h
    replace h := gd_s h
    refine j_iast (NI := 12) (D_Lands_add 23 rfl) kd_12 lc_12 (wr_gi _ _ _) rfl g3.1 g3.2 ?_
    refine j_gen (fun G3 e3 => ?_)
    replace h := wG_at h e3
    refine j_aloadn (k := 0) (D_Lands_add 24 rfl) rfl rfl ?_
    refine j_dup (D_Lands_add 25 rfl) rfl ?_
    refine j_getI rfl fa_Lands_27 kd_9 lc_9 (by decide) rfl (D_Lands_add 26 rfl) ?_
    refine j_iconst (v := 1) (D_Lands_add 27 rfl) rfl ?_
    refine j_iadd (D_Lands_add 28 rfl) ?_
    refine j_putI rfl fa_Lands_27 kd_9 lc_9 (by decide) rfl (D_Lands_add 29 rfl) ?_
    refine j_gen (fun G4 e4 => ?_)
    replace h := wG_at h e4
    refine j_aloadn (k := 0) (D_Lands_add 30 rfl) rfl rfl ?_
    refine j_getI rfl fa_Lands_27 kd_9 lc_9 (by decide) rfl (D_Lands_add 31 rfl) ?_
    refine j_iconst (v := 1) (D_Lands_add 32 rfl) rfl ?_
    refine j_isub (D_Lands_add 33 rfl) ?_
    exact j_iret (D_Lands_add 34 rfl) rfl (rfl) rfl rfl (leafI h (wr_n (rfl)))
  · replace h := ite_f h c1
    refine j_iconst (v := (-1)) (D_Lands_add 4 rfl) rfl ?_
    exact j_iret (D_Lands_add 5 rfl) rfl (wr_lit rfl) rfl rfl (leafI h (wr_n (wr_lit rfl)))
abbrev M_Hall_land : MI := (⟨"InquestHall", "land", "(III)I"⟩, prog_1_method_8_code, 4, (some .int))
theorem cw_Hall_land : Cond.code M_Hall_land.1 M_Hall_land.2.1 M_Hall_land.2.2.1 M_Hall_land.2.2.2 ∈ TS := mTS (List.mem_of_getElem? (i := 694) (by decide +kernel)) (by decide +kernel)
theorem fa_Hall_19 : FA "InquestHall" 19 0 1 true (.object "InquestHall$Lands") := ⟨_, _, _, _, ok_Hall, by decide, mTS (List.mem_of_getElem? (i := 593) (by decide +kernel)) (by decide +kernel), rfl, rfl⟩
theorem fx_0_1 {G : GS} (w : WF true NC G) : G.2.2 0 1 = 9 := w.2 rfl (0, 1, 9) (by decide)
theorem lk_Hall_147 : Cond.methodLink "InquestHall" 147 M_Lands_add.1 ∈ TS := mTS (List.mem_of_getElem? (i := 695) (by decide +kernel)) (by decide +kernel)
theorem mok_Lands_add : MOK M_Lands_add 3 := ⟨mTS (List.mem_of_getElem? (i := 696) (by decide +kernel)) (by decide +kernel), mTS (List.mem_of_getElem? (i := 697) (by decide +kernel)) (by decide +kernel), mTS (List.mem_of_getElem? (i := 124) (by decide +kernel)) (by decide +kernel), cw_Lands_add, ⟨by decide, by decide, by decide +kernel⟩, by decide +kernel, by decide⟩
def tb_Hall_land : List (Nat × Instr × Nat) := [(0, .iload_n 1, 1), (1, .ifCond .lt 33, 3), (4, .iload_n 1, 1), (5, .iconst 3, 1), (6, .if_icmp .gt 28, 3), (9, .iload_n 2, 1), (10, .ifCond .lt 24, 3), (13, .iload_n 2, 1), (14, .iconst 2, 1), (15, .if_icmp .gt 19, 3), (18, .iload_n 3, 1), (19, .iconst (-1), 1), (20, .if_icmp .eq 16, 3), (23, .aload_n 0, 1), (24, .getfield 12, 3), (27, .iload_n 3, 1), (28, .invokevirtual 122, 3), (31, .ifCond .ne 5, 3), (34, .iconst (-1), 1), (35, .ireturn, 1), (36, .aload_n 0, 1), (37, .getfield 19, 3), (40, .iload_n 1, 1), (41, .iload_n 2, 1), (42, .iload_n 3, 1), (43, .invokevirtual 147, 3), (46, .ireturn, 1)]
theorem D_Hall_land (i : Nat) {pc len : Nat} {ins : Instr} (hi : tb_Hall_land[i]? = some (pc, ins, len)) : decode M_Hall_land.2.1 pc = .ok (ins, len) := dec_of (by decide +kernel) i hi
def f_Hall_land_L36 (G : GS) (x1 : Int) (x2 : Int) (x3 : Int) : Option (Int × GS) :=
  (f_Lands_add G x1 x2 x3).bind fun q1 =>
  some (q1.1, q1.2)
theorem s_Hall_land_L36 {X : XT} {r : Int × GS} : ∀ {G : GS} {x1 : Int} {x2 : Int} {x3 : Int}, wr x1 = x1 → wr x2 = x2 → wr x3 = x3 → f_Hall_land_L36 G x1 x2 x3 = some r → J X true 7 0 0 M_Hall_land (Ri r.1 r.2) NC 0 0 36 [(0, rf X 0), (1, vi x1), (2, vi x2), (3, vi x3)] [] G := by
  intro G x1 x2 x3 hx1 hx2 hx3 h
  unfold f_Hall_land_L36 at h
  refine j_aloadn (k := 0) (D_Hall_land 20 rfl) rfl rfl ?_
  refine j_getR rfl fa_Hall_19 kd_0 lc_0 (by decide) rfl fx_0_1 (by decide) (D_Hall_land 21 rfl) ?_
  refine j_iloadn (k := 1) (D_Hall_land 22 rfl) rfl rfl ?_
  refine j_iloadn (k := 2) (D_Hall_land 23 rfl) rfl rfl ?_
  refine j_iloadn (k := 3) (D_Hall_land 24 rfl) rfl rfl ?_
  obtain ⟨q1, e1, h⟩ := Option.bind_eq_some_iff.mp h
  refine j_cVi (c_Lands_add (hx1) (hx2) (hx3) e1) rfl lk_Hall_147 mok_Lands_add kd_9 lc_9 rfl (by decide) rfl rfl (Nat.le_of_ble_eq_true rfl) (D_Hall_land 25 rfl) (fun w1 => ?_)
  exact j_iret (D_Hall_land 26 rfl) rfl (w1) rfl rfl (leafI h (wr_n (w1)))
def f_Hall_land (G : GS) (a1 : Int) (a2 : Int) (a3 : Int) : Option (Int × GS) :=
  if a1 < 0 then
    some ((-1), G)
  else
    if 3 < a1 then
      some ((-1), G)
    else
      if a2 < 0 then
        some ((-1), G)
      else
        if 2 < a2 then
          some ((-1), G)
        else
          if a3 = (-1) then
            f_Hall_land_L36 G a1 a2 a3
          else
            (f_People_has G a3).bind fun q1 =>
            if q1 = 0 then
              some ((-1), G)
            else
              f_Hall_land_L36 G a1 a2 a3
theorem c_Hall_land {X : XT} {G : GS} {a1 : Int} {a2 : Int} {a3 : Int} {r : Int × GS} (ha1 : wr a1 = a1) (ha2 : wr a2 = a2) (ha3 : wr a3 = a3) (h : f_Hall_land G a1 a2 a3 = some r) : Call X true 7 0 0 M_Hall_land [rf X 0, vi a1, vi a2, vi a3] NC G (Ri r.1 r.2) := by
  refine Call_of_J cw_Hall_land (by decide +kernel) (Nat.le_of_ble_eq_true rfl) ?_
  unfold f_Hall_land at h
  show J X true 7 0 0 M_Hall_land (Ri r.1 r.2) NC 0 0 0 [(0, rf X 0), (1, vi a1), (2, vi a2), (3, vi a3)] [] G
  refine j_iloadn (k := 1) (D_Hall_land 0 rfl) rfl rfl ?_
  refine j_if_lt (tgt := 34) (D_Hall_land 1 rfl) rfl (ha1) (fun c1 => ?_) (fun c1 => ?_)
  · replace h := ite_t h c1
    refine j_iconst (v := (-1)) (D_Hall_land 18 rfl) rfl ?_
    exact j_iret (D_Hall_land 19 rfl) rfl (wr_lit rfl) rfl rfl (leafI h (wr_n (wr_lit rfl)))
  · replace h := ite_f h c1
    refine j_iloadn (k := 1) (D_Hall_land 2 rfl) rfl rfl ?_
    refine j_iconst (v := 3) (D_Hall_land 3 rfl) rfl ?_
    refine j_ic_gt (tgt := 34) (D_Hall_land 4 rfl) rfl (ha1) (wr_lit rfl) (fun c2 => ?_) (fun c2 => ?_)
    · replace h := ite_t h c2
      refine j_iconst (v := (-1)) (D_Hall_land 18 rfl) rfl ?_
      exact j_iret (D_Hall_land 19 rfl) rfl (wr_lit rfl) rfl rfl (leafI h (wr_n (wr_lit rfl)))
    · replace h := ite_f h c2
      refine j_iloadn (k := 2) (D_Hall_land 5 rfl) rfl rfl ?_
      refine j_if_lt (tgt := 34) (D_Hall_land 6 rfl) rfl (ha2) (fun c3 => ?_) (fun c3 => ?_)
      · replace h := ite_t h c3
        refine j_iconst (v := (-1)) (D_Hall_land 18 rfl) rfl ?_
        exact j_iret (D_Hall_land 19 rfl) rfl (wr_lit rfl) rfl rfl (leafI h (wr_n (wr_lit rfl)))
      · replace h := ite_f h c3
        refine j_iloadn (k := 2) (D_Hall_land 7 rfl) rfl rfl ?_
        refine j_iconst (v := 2) (D_Hall_land 8 rfl) rfl ?_
        refine j_ic_gt (tgt := 34) (D_Hall_land 9 rfl) rfl (ha2) (wr_lit rfl) (fun c4 => ?_) (fun c4 => ?_)
        · replace h := ite_t h c4
          refine j_iconst (v := (-1)) (D_Hall_land 18 rfl) rfl ?_
          exact j_iret (D_Hall_land 19 rfl) rfl (wr_lit rfl) rfl rfl (leafI h (wr_n (wr_lit rfl)))
        · replace h := ite_f h c4
          refine j_iloadn (k := 3) (D_Hall_land 10 rfl) rfl rfl ?_
          refine j_iconst (v := (-1)) (D_Hall_land 11 rfl) rfl ?_
          refine j_ic_eq (tgt := 36) (D_Hall_land 12 rfl) rfl (ha3) (wr_lit rfl) (fun c5 => ?_) (fun c5 => ?_)
          · replace h := ite_t h c5
            refine j_loc [0, 1, 2, 3] rfl ?_
            exact s_Hall_land_L36 (ha1) (ha2) (ha3) h
          · replace h := ite_f h c5
            refine j_aloadn (k := 0) (D_Hall_land 13 rfl) rfl rfl ?_
            refine j_getR rfl fa_Hall_12 kd_0 lc_0 (by decide) rfl fx_0_0 (by decide) (D_Hall_land 14 rfl) ?_
            refine j_iloadn (k := 3) (D_Hall_land 15 rfl) rfl rfl ?_
            obtain ⟨q1, e1, h⟩ := Option.bind_eq_some_iff.mp h
            refine j_cVz (c_People_has (ha3) e1) rfl lk_Hall_122 mok_People_has kd_1 lc_1 rfl (by decide) rfl rfl (Nat.le_of_ble_eq_true rfl) (D_Hall_land 16 rfl) (fun w1 bw1 => ?_)
            refine j_if_ne (tgt := 36) (D_Hall_land 17 rfl) rfl (w1) (fun c6 => ?_) (fun c6 => ?_)
            · replace h := ite_f h c6
              refine j_loc [0, 1, 2, 3] rfl ?_
              exact s_Hall_land_L36 (ha1) (ha2) (ha3) h
            · replace h := ite_t h c6
              refine j_iconst (v := (-1)) (D_Hall_land 18 rfl) rfl ?_
              exact j_iret (D_Hall_land 19 rfl) rfl (wr_lit rfl) rfl rfl (leafI h (wr_n (wr_lit rfl)))
abbrev M_Model_land : MI := (⟨"InquestHallModel", "land", "(III)I"⟩, prog_14_method_16_code, 4, (some .int))
theorem cw_Model_land : Cond.code M_Model_land.1 M_Model_land.2.1 M_Model_land.2.2.1 M_Model_land.2.2.2 ∈ TS := mTS (List.mem_of_getElem? (i := 1609) (by decide +kernel)) (by decide +kernel)
theorem fa_Model_215 : FA "InquestHallModel" 215 12 85 false .boolean := ⟨_, _, _, _, ok_Model, by decide, mTS (List.mem_of_getElem? (i := 1386) (by decide +kernel)) (by decide +kernel), rfl, rfl⟩
theorem fa_Model_212 : FA "InquestHallModel" 212 12 10 false .int := ⟨_, _, _, _, ok_Model, by decide, mTS (List.mem_of_getElem? (i := 1311) (by decide +kernel)) (by decide +kernel), rfl, rfl⟩
theorem fa_Model_34 : FA "InquestHallModel" 34 12 11 true (.array .int) := ⟨_, _, _, _, ok_Model, by decide, mTS (List.mem_of_getElem? (i := 1312) (by decide +kernel)) (by decide +kernel), rfl, rfl⟩
theorem fx_81_11 {G : GS} (w : WF true NC G) : G.2.2 81 11 = 90 := w.2 rfl (81, 11, 90) (by decide)
theorem kd_90 : kd 90 = (0, 12) := rfl
theorem lc_90 : 90 < NC := by decide
theorem fa_Model_37 : FA "InquestHallModel" 37 12 12 true (.array .int) := ⟨_, _, _, _, ok_Model, by decide, mTS (List.mem_of_getElem? (i := 1313) (by decide +kernel)) (by decide +kernel), rfl, rfl⟩
theorem fx_81_12 {G : GS} (w : WF true NC G) : G.2.2 81 12 = 91 := w.2 rfl (81, 12, 91) (by decide)
theorem kd_91 : kd 91 = (0, 12) := rfl
theorem lc_91 : 91 < NC := by decide
theorem fa_Model_40 : FA "InquestHallModel" 40 12 13 true (.array .int) := ⟨_, _, _, _, ok_Model, by decide, mTS (List.mem_of_getElem? (i := 1314) (by decide +kernel)) (by decide +kernel), rfl, rfl⟩
theorem fx_81_13 {G : GS} (w : WF true NC G) : G.2.2 81 13 = 92 := w.2 rfl (81, 13, 92) (by decide)
theorem kd_92 : kd 92 = (0, 12) := rfl
theorem lc_92 : 92 < NC := by decide
def tb_Model_land : List (Nat × Instr × Nat) := [(0, .aload_n 0, 1), (1, .iconst 0, 1), (2, .putfield 215, 3), (5, .iload_n 1, 1), (6, .iconst 0, 1), (7, .iconst 3, 1), (8, .invokestatic 188, 3), (11, .ifCond .eq 34, 3), (14, .iload_n 2, 1), (15, .iconst 0, 1), (16, .iconst 2, 1), (17, .invokestatic 188, 3), (20, .ifCond .eq 25, 3), (23, .iload_n 3, 1), (24, .iconst (-1), 1), (25, .if_icmp .eq 11, 3), (28, .aload_n 0, 1), (29, .iload_n 3, 1), (30, .invokevirtual 198, 3), (33, .ifCond .eq 12, 3), (36, .aload_n 0, 1), (37, .getfield 212, 3), (40, .bipush 12, 2), (42, .if_icmp .ne 5, 3), (45, .iconst (-1), 1), (46, .ireturn, 1), (47, .aload_n 0, 1), (48, .getfield 34, 3), (51, .aload_n 0, 1), (52, .getfield 212, 3), (55, .iload_n 1, 1), (56, .iastore, 1), (57, .aload_n 0, 1), (58, .getfield 37, 3), (61, .aload_n 0, 1), (62, .getfield 212, 3), (65, .iload_n 2, 1), (66, .iastore, 1), (67, .aload_n 0, 1), (68, .getfield 40, 3), (71, .aload_n 0, 1), (72, .getfield 212, 3), (75, .iload_n 3, 1), (76, .iastore, 1), (77, .aload_n 0, 1), (78, .dup, 1), (79, .getfield 212, 3), (82, .iconst 1, 1), (83, .iadd, 1), (84, .putfield 212, 3), (87, .aload_n 0, 1), (88, .getfield 212, 3), (91, .iconst 1, 1), (92, .isub, 1), (93, .ireturn, 1)]
theorem D_Model_land (i : Nat) {pc len : Nat} {ins : Instr} (hi : tb_Model_land[i]? = some (pc, ins, len)) : decode M_Model_land.2.1 pc = .ok (ins, len) := dec_of (by decide +kernel) i hi
def f_Model_land_L36 (G : GS) (x1 : Int) (x2 : Int) (x3 : Int) : Option (Int × GS) :=
  if gi G 81 10 = 12 then
    some ((-1), G)
  else
    gd (0 ≤ gi G 81 10 ∧ gi G 81 10 < 12) <|
    wG (si G 90 (gi G 81 10).toNat x1) fun G1 =>
    gd (0 ≤ gi G1 81 10 ∧ gi G1 81 10 < 12) <|
    wG (si G1 91 (gi G1 81 10).toNat x2) fun G2 =>
    gd (0 ≤ gi G2 81 10 ∧ gi G2 81 10 < 12) <|
    wG (si G2 92 (gi G2 81 10).toNat x3) fun G3 =>
    wG (si G3 81 10 ((gi G3 81 10) + 1)) fun G4 =>
    some (wr ((gi G4 81 10) - 1), G4)
theorem s_Model_land_L36 {X : XT} {r : Int × GS} : ∀ {G : GS} {x1 : Int} {x2 : Int} {x3 : Int}, wr x1 = x1 → wr x2 = x2 → wr x3 = x3 → f_Model_land_L36 G x1 x2 x3 = some r → J X true 8 0 0 M_Model_land (Ri r.1 r.2) NC 0 0 36 [(0, rf X 81), (1, vi x1), (2, vi x2), (3, vi x3)] [] G := by
  intro G x1 x2 x3 hx1 hx2 hx3 h
  unfold f_Model_land_L36 at h
  refine j_aloadn (k := 0) (D_Model_land 20 rfl) rfl rfl ?_
  refine j_getI rfl fa_Model_212 kd_81 lc_81 (by decide) rfl (D_Model_land 21 rfl) ?_
  refine j_bipush (v := 12) (D_Model_land 22 rfl) rfl ?_
  refine j_ic_ne (tgt := 47) (D_Model_land 23 rfl) rfl (wr_gi _ _ _) (wr_lit rfl) (fun c1 => ?_) (fun c1 => ?_)
  · replace h := ite_f h c1
    refine j_aloadn (k := 0) (D_Model_land 26 rfl) rfl rfl ?_
    refine j_getR rfl fa_Model_34 kd_81 lc_81 (by decide) rfl fx_81_11 (by decide) (D_Model_land 27 rfl) ?_
    refine j_aloadn (k := 0) (D_Model_land 28 rfl) rfl rfl ?_
    refine j_getI rfl fa_Model_212 kd_81 lc_81 (by decide) rfl (D_Model_land 29 rfl) ?_
    refine j_iloadn (k := 1) (D_Model_land 30 rfl) rfl rfl ?_
    have g1 := gd_c h
    replace h := gd_s h
    refine j_iast (NI := 12) (D_Model_land 31 rfl) kd_90 lc_90 (wr_gi _ _ _) rfl g1.1 g1.2 ?_
    refine j_gen (fun G1 e1 => ?_)
    replace h := wG_at h e1
    refine j_aloadn (k := 0) (D_Model_land 32 rfl) rfl rfl ?_
    refine j_getR rfl fa_Model_37 kd_81 lc_81 (by decide) rfl fx_81_12 (by decide) (D_Model_land 33 rfl) ?_
    refine j_aloadn (k := 0) (D_Model_land 34 rfl) rfl rfl ?_
    refine j_getI rfl fa_Model_212 kd_81 lc_81 (by decide) rfl (D_Model_land 35 rfl) ?_
    refine j_iloadn (k := 2) (D_Model_land 36 rfl) rfl rfl ?_
    have g2 := gd_c h
    replace h := gd_s h
    refine j_iast (NI := 12) (D_Model_land 37 rfl) kd_91 lc_91 (wr_gi _ _ _) rfl g2.1 g2.2 ?_
    refine j_gen (fun G2 e2 => ?_)
    replace h := wG_at h e2
    refine j_aloadn (k := 0) (D_Model_land 38 rfl) rfl rfl ?_
    refine j_getR rfl fa_Model_40 kd_81 lc_81 (by decide) rfl fx_81_13 (by decide) (D_Model_land 39 rfl) ?_
    refine j_aloadn (k := 0) (D_Model_land 40 rfl) rfl rfl ?_
    refine j_getI rfl fa_Model_212 kd_81 lc_81 (by decide) rfl (D_Model_land 41 rfl) ?_
    refine j_iloadn (k := 3) (D_Model_land 42 rfl) rfl rfl ?_
    have g3 := gd_c h
    replace h := gd_s h
    refine j_iast (NI := 12) (D_Model_land 43 rfl) kd_92 lc_92 (wr_gi _ _ _) rfl g3.1 g3.2 ?_
    refine j_gen (fun G3 e3 => ?_)
    replace h := wG_at h e3
    refine j_aloadn (k := 0) (D_Model_land 44 rfl) rfl rfl ?_
    refine j_dup (D_Model_land 45 rfl) rfl ?_
    refine j_getI rfl fa_Model_212 kd_81 lc_81 (by decide) rfl (D_Model_land 46 rfl) ?_
    refine j_iconst (v := 1) (D_Model_land 47 rfl) rfl ?_
    refine j_iadd (D_Model_land 48 rfl) ?_
    refine j_putI rfl fa_Model_212 kd_81 lc_81 (by decide) rfl (D_Model_land 49 rfl) ?_
    refine j_gen (fun G4 e4 => ?_)
    replace h := wG_at h e4
    refine j_aloadn (k := 0) (D_Model_land 50 rfl) rfl rfl ?_
    refine j_getI rfl fa_Model_212 kd_81 lc_81 (by decide) rfl (D_Model_land 51 rfl) ?_
    refine j_iconst (v := 1) (D_Model_land 52 rfl) rfl ?_
    refine j_isub (D_Model_land 53 rfl) ?_
    exact j_iret (D_Model_land 54 rfl) rfl (rfl) rfl rfl (leafI h (wr_n (rfl)))
  · replace h := ite_t h c1
    refine j_iconst (v := (-1)) (D_Model_land 24 rfl) rfl ?_
    exact j_iret (D_Model_land 25 rfl) rfl (wr_lit rfl) rfl rfl (leafI h (wr_n (wr_lit rfl)))
def f_Model_land (G : GS) (a1 : Int) (a2 : Int) (a3 : Int) : Option (Int × GS) :=
  wG (si G 81 85 0) fun G1 =>
  (f_Model_isIn G1 a1 0 3).bind fun q1 =>
  if q1 = 0 then
    some ((-1), G1)
  else
    (f_Model_isIn G1 a2 0 2).bind fun q2 =>
    if q2 = 0 then
      some ((-1), G1)
    else
      if a3 = (-1) then
        f_Model_land_L36 G1 a1 a2 a3
      else
        (f_Model_isPerson G1 a3).bind fun q3 =>
        if q3 = 0 then
          some ((-1), G1)
        else
          f_Model_land_L36 G1 a1 a2 a3
theorem c_Model_land {X : XT} {G : GS} {a1 : Int} {a2 : Int} {a3 : Int} {r : Int × GS} (ha1 : wr a1 = a1) (ha2 : wr a2 = a2) (ha3 : wr a3 = a3) (h : f_Model_land G a1 a2 a3 = some r) : Call X true 8 0 0 M_Model_land [rf X 81, vi a1, vi a2, vi a3] NC G (Ri r.1 r.2) := by
  refine Call_of_J cw_Model_land (by decide +kernel) (Nat.le_of_ble_eq_true rfl) ?_
  unfold f_Model_land at h
  show J X true 8 0 0 M_Model_land (Ri r.1 r.2) NC 0 0 0 [(0, rf X 81), (1, vi a1), (2, vi a2), (3, vi a3)] [] G
  refine j_aloadn (k := 0) (D_Model_land 0 rfl) rfl rfl ?_
  refine j_iconst (v := 0) (D_Model_land 1 rfl) rfl ?_
  refine j_putZ rfl fa_Model_215 kd_81 lc_81 (by decide) rfl (wr_lit rfl) (by decide) (D_Model_land 2 rfl) ?_
  refine j_gen (fun G1 e1 => ?_)
  replace h := wG_at h e1
  refine j_iloadn (k := 1) (D_Model_land 3 rfl) rfl rfl ?_
  refine j_iconst (v := 0) (D_Model_land 4 rfl) rfl ?_
  refine j_iconst (v := 3) (D_Model_land 5 rfl) rfl ?_
  obtain ⟨q1, e2, h⟩ := Option.bind_eq_some_iff.mp h
  refine j_cSz (c_Model_isIn (ha1) (wr_lit rfl) (wr_lit rfl) e2) rfl lk_Model_188 sok_Model_isIn (by decide) rfl rfl (Nat.le_of_ble_eq_true rfl) (D_Model_land 6 rfl) (fun w1 bw1 => ?_)
  refine j_if_eq (tgt := 45) (D_Model_land 7 rfl) rfl (w1) (fun c1 => ?_) (fun c1 => ?_)
  · replace h := ite_t h c1
    refine j_iconst (v := (-1)) (D_Model_land 24 rfl) rfl ?_
    exact j_iret (D_Model_land 25 rfl) rfl (wr_lit rfl) rfl rfl (leafI h (wr_n (wr_lit rfl)))
  · replace h := ite_f h c1
    refine j_iloadn (k := 2) (D_Model_land 8 rfl) rfl rfl ?_
    refine j_iconst (v := 0) (D_Model_land 9 rfl) rfl ?_
    refine j_iconst (v := 2) (D_Model_land 10 rfl) rfl ?_
    obtain ⟨q2, e3, h⟩ := Option.bind_eq_some_iff.mp h
    refine j_cSz (c_Model_isIn (ha2) (wr_lit rfl) (wr_lit rfl) e3) rfl lk_Model_188 sok_Model_isIn (by decide) rfl rfl (Nat.le_of_ble_eq_true rfl) (D_Model_land 11 rfl) (fun w2 bw2 => ?_)
    refine j_if_eq (tgt := 45) (D_Model_land 12 rfl) rfl (w2) (fun c2 => ?_) (fun c2 => ?_)
    · replace h := ite_t h c2
      refine j_iconst (v := (-1)) (D_Model_land 24 rfl) rfl ?_
      exact j_iret (D_Model_land 25 rfl) rfl (wr_lit rfl) rfl rfl (leafI h (wr_n (wr_lit rfl)))
    · replace h := ite_f h c2
      refine j_iloadn (k := 3) (D_Model_land 13 rfl) rfl rfl ?_
      refine j_iconst (v := (-1)) (D_Model_land 14 rfl) rfl ?_
      refine j_ic_eq (tgt := 36) (D_Model_land 15 rfl) rfl (ha3) (wr_lit rfl) (fun c3 => ?_) (fun c3 => ?_)
      · replace h := ite_t h c3
        refine j_loc [0, 1, 2, 3] rfl ?_
        exact s_Model_land_L36 (ha1) (ha2) (ha3) h
      · replace h := ite_f h c3
        refine j_aloadn (k := 0) (D_Model_land 16 rfl) rfl rfl ?_
        refine j_iloadn (k := 3) (D_Model_land 17 rfl) rfl rfl ?_
        obtain ⟨q3, e4, h⟩ := Option.bind_eq_some_iff.mp h
        refine j_cVz (c_Model_isPerson (ha3) e4) rfl lk_Model_198 mok_Model_isPerson kd_81 lc_81 rfl (by decide) rfl rfl (Nat.le_of_ble_eq_true rfl) (D_Model_land 18 rfl) (fun w3 bw3 => ?_)
        refine j_if_eq (tgt := 45) (D_Model_land 19 rfl) rfl (w3) (fun c4 => ?_) (fun c4 => ?_)
        · replace h := ite_t h c4
          refine j_iconst (v := (-1)) (D_Model_land 24 rfl) rfl ?_
          exact j_iret (D_Model_land 25 rfl) rfl (wr_lit rfl) rfl rfl (leafI h (wr_n (wr_lit rfl)))
        · replace h := ite_f h c4
          refine j_loc [0, 1, 2, 3] rfl ?_
          exact s_Model_land_L36 (ha1) (ha2) (ha3) h
abbrev M_Lands_has : MI := (⟨"InquestHall$Lands", "has", "(I)Z"⟩, prog_4_method_3_code, 2, (some .boolean))
theorem cw_Lands_has : Cond.code M_Lands_has.1 M_Lands_has.2.1 M_Lands_has.2.2.1 M_Lands_has.2.2.2 ∈ TS := mTS (List.mem_of_getElem? (i := 706) (by decide +kernel)) (by decide +kernel)
def tb_Lands_has : List (Nat × Instr × Nat) := [(0, .iload_n 1, 1), (1, .ifCond .lt 15, 3), (4, .iload_n 1, 1), (5, .aload_n 0, 1), (6, .getfield 27, 3), (9, .if_icmp .ge 7, 3), (12, .iconst 1, 1), (13, .goto 4, 3), (16, .iconst 0, 1), (17, .ireturn, 1)]
theorem D_Lands_has (i : Nat) {pc len : Nat} {ins : Instr} (hi : tb_Lands_has[i]? = some (pc, ins, len)) : decode M_Lands_has.2.1 pc = .ok (ins, len) := dec_of (by decide +kernel) i hi
def f_Lands_has (G : GS) (a1 : Int) : Option (Int) :=
  if a1 < 0 then
    some 0
  else
    if gi G 9 5 ≤ a1 then
      some 0
    else
      some 1
theorem c_Lands_has {X : XT} {G : GS} {a1 : Int} {r : Int} (ha1 : wr a1 = a1) (h : f_Lands_has G a1 = some r) : Call X true 6 0 0 M_Lands_has [rf X 9, vi a1] NC G (Rz r G) := by
  refine Call_of_J cw_Lands_has (by decide +kernel) (Nat.le_of_ble_eq_true rfl) ?_
  unfold f_Lands_has at h
  show J X true 6 0 0 M_Lands_has (Rz r G) NC 0 0 0 [(0, rf X 9), (1, vi a1)] [] G
  refine j_iloadn (k := 1) (D_Lands_has 0 rfl) rfl rfl ?_
  refine j_if_lt (tgt := 16) (D_Lands_has 1 rfl) rfl (ha1) (fun c1 => ?_) (fun c1 => ?_)
  · replace h := ite_t h c1
    refine j_iconst (v := 0) (D_Lands_has 8 rfl) rfl ?_
    exact j_zret (D_Lands_has 9 rfl) rfl (wr_lit rfl) (nz_01 (by decide)) rfl rfl (leafZo h (wr_n (wr_lit rfl)) (by decide))
  · replace h := ite_f h c1
    refine j_iloadn (k := 1) (D_Lands_has 2 rfl) rfl rfl ?_
    refine j_aloadn (k := 0) (D_Lands_has 3 rfl) rfl rfl ?_
    refine j_getI rfl fa_Lands_27 kd_9 lc_9 (by decide) rfl (D_Lands_has 4 rfl) ?_
    refine j_ic_ge (tgt := 16) (D_Lands_has 5 rfl) rfl (ha1) (wr_gi _ _ _) (fun c2 => ?_) (fun c2 => ?_)
    · replace h := ite_t h c2
      refine j_iconst (v := 0) (D_Lands_has 8 rfl) rfl ?_
      exact j_zret (D_Lands_has 9 rfl) rfl (wr_lit rfl) (nz_01 (by decide)) rfl rfl (leafZo h (wr_n (wr_lit rfl)) (by decide))
    · replace h := ite_f h c2
      refine j_iconst (v := 1) (D_Lands_has 6 rfl) rfl ?_
      refine j_goto (tgt := 17) (D_Lands_has 7 rfl) rfl ?_
      exact j_zret (D_Lands_has 9 rfl) rfl (wr_lit rfl) (nz_01 (by decide)) rfl rfl (leafZo h (wr_n (wr_lit rfl)) (by decide))
abbrev M_Hall_acre : MI := (⟨"InquestHall", "acre", "(IIII)Z"⟩, prog_1_method_9_code, 5, (some .boolean))
theorem cw_Hall_acre : Cond.code M_Hall_acre.1 M_Hall_acre.2.1 M_Hall_acre.2.2.1 M_Hall_acre.2.2.2 ∈ TS := mTS (List.mem_of_getElem? (i := 702) (by decide +kernel)) (by decide +kernel)
theorem lk_Hall_150 : Cond.methodLink "InquestHall" 150 M_Lands_has.1 ∈ TS := mTS (List.mem_of_getElem? (i := 703) (by decide +kernel)) (by decide +kernel)
theorem mok_Lands_has : MOK M_Lands_has 1 := ⟨mTS (List.mem_of_getElem? (i := 704) (by decide +kernel)) (by decide +kernel), mTS (List.mem_of_getElem? (i := 705) (by decide +kernel)) (by decide +kernel), mTS (List.mem_of_getElem? (i := 124) (by decide +kernel)) (by decide +kernel), cw_Lands_has, ⟨by decide, by decide, by decide +kernel⟩, by decide +kernel, by decide⟩
theorem fa_Hall_151 : FA "InquestHall" 151 2 3 true (.array .int) := ⟨_, _, _, _, ok_Lands, by decide, mTS (List.mem_of_getElem? (i := 207) (by decide +kernel)) (by decide +kernel), rfl, rfl⟩
theorem fx_9_3 {G : GS} (w : WF true NC G) : G.2.2 9 3 = 13 := w.2 rfl (9, 3, 13) (by decide)
theorem kd_13 : kd 13 = (0, 72) := rfl
theorem lc_13 : 13 < NC := by decide
theorem fa_Hall_154 : FA "InquestHall" 154 2 4 true (.array .int) := ⟨_, _, _, _, ok_Lands, by decide, mTS (List.mem_of_getElem? (i := 209) (by decide +kernel)) (by decide +kernel), rfl, rfl⟩
theorem fx_9_4 {G : GS} (w : WF true NC G) : G.2.2 9 4 = 14 := w.2 rfl (9, 4, 14) (by decide)
theorem kd_14 : kd 14 = (0, 72) := rfl
theorem lc_14 : 14 < NC := by decide
def tb_Hall_acre : List (Nat × Instr × Nat) := [(0, .aload_n 0, 1), (1, .getfield 19, 3), (4, .iload_n 1, 1), (5, .invokevirtual 150, 3), (8, .ifCond .eq 35, 3), (11, .iload_n 2, 1), (12, .ifCond .lt 31, 3), (15, .iload_n 2, 1), (16, .bipush 6, 2), (18, .if_icmp .ge 25, 3), (21, .iload_n 3, 1), (22, .ifCond .lt 21, 3), (25, .iload_n 3, 1), (26, .bipush 99, 2), (28, .if_icmp .gt 15, 3), (31, .iload 4, 2), (33, .ifCond .lt 10, 3), (36, .iload 4, 2), (38, .bipush 99, 2), (40, .if_icmp .le 5, 3), (43, .iconst 0, 1), (44, .ireturn, 1), (45, .aload_n 0, 1), (46, .getfield 19, 3), (49, .getfield 151, 3), (52, .iload_n 1, 1), (53, .bipush 6, 2), (55, .imul, 1), (56, .iload_n 2, 1), (57, .iadd, 1), (58, .iload_n 3, 1), (59, .iastore, 1), (60, .aload_n 0, 1), (61, .getfield 19, 3), (64, .getfield 154, 3), (67, .iload_n 1, 1), (68, .bipush 6, 2), (70, .imul, 1), (71, .iload_n 2, 1), (72, .iadd, 1), (73, .iload 4, 2), (75, .iastore, 1), (76, .iconst 1, 1), (77, .ireturn, 1)]
theorem D_Hall_acre (i : Nat) {pc len : Nat} {ins : Instr} (hi : tb_Hall_acre[i]? = some (pc, ins, len)) : decode M_Hall_acre.2.1 pc = .ok (ins, len) := dec_of (by decide +kernel) i hi
def f_Hall_acre (G : GS) (a1 : Int) (a2 : Int) (a3 : Int) (a4 : Int) : Option (Int × GS) :=
  (f_Lands_has G a1).bind fun q1 =>
  if q1 = 0 then
    some (0, G)
  else
    if a2 < 0 then
      some (0, G)
    else
      if 6 ≤ a2 then
        some (0, G)
      else
        if a3 < 0 then
          some (0, G)
        else
          if 99 < a3 then
            some (0, G)
          else
            if a4 < 0 then
              some (0, G)
            else
              if a4 ≤ 99 then
                gd (0 ≤ wr ((a1 * 6) + a2) ∧ wr ((a1 * 6) + a2) < 72) <|
                wG (si G 13 (wr ((a1 * 6) + a2)).toNat a3) fun G1 =>
                gd (0 ≤ wr ((a1 * 6) + a2) ∧ wr ((a1 * 6) + a2) < 72) <|
                wG (si G1 14 (wr ((a1 * 6) + a2)).toNat a4) fun G2 =>
                some (1, G2)
              else
                some (0, G)
theorem c_Hall_acre {X : XT} {G : GS} {a1 : Int} {a2 : Int} {a3 : Int} {a4 : Int} {r : Int × GS} (ha1 : wr a1 = a1) (ha2 : wr a2 = a2) (ha3 : wr a3 = a3) (ha4 : wr a4 = a4) (h : f_Hall_acre G a1 a2 a3 a4 = some r) : Call X true 7 0 0 M_Hall_acre [rf X 0, vi a1, vi a2, vi a3, vi a4] NC G (Rz r.1 r.2) := by
  refine Call_of_J cw_Hall_acre (by decide +kernel) (Nat.le_of_ble_eq_true rfl) ?_
  unfold f_Hall_acre at h
  show J X true 7 0 0 M_Hall_acre (Rz r.1 r.2) NC 0 0 0 [(0, rf X 0), (1, vi a1), (2, vi a2), (3, vi a3), (4, vi a4)] [] G
  refine j_aloadn (k := 0) (D_Hall_acre 0 rfl) rfl rfl ?_
  refine j_getR rfl fa_Hall_19 kd_0 lc_0 (by decide) rfl fx_0_1 (by decide) (D_Hall_acre 1 rfl) ?_
  refine j_iloadn (k := 1) (D_Hall_acre 2 rfl) rfl rfl ?_
  obtain ⟨q1, e1, h⟩ := Option.bind_eq_some_iff.mp h
  refine j_cVz (c_Lands_has (ha1) e1) rfl lk_Hall_150 mok_Lands_has kd_9 lc_9 rfl (by decide) rfl rfl (Nat.le_of_ble_eq_true rfl) (D_Hall_acre 3 rfl) (fun w1 bw1 => ?_)
  refine j_if_eq (tgt := 43) (D_Hall_acre 4 rfl) rfl (w1) (fun c1 => ?_) (fun c1 => ?_)
  · replace h := ite_t h c1
    refine j_iconst (v := 0) (D_Hall_acre 20 rfl) rfl ?_
    exact j_zret (D_Hall_acre 21 rfl) rfl (wr_lit rfl) (nz_01 (by decide)) rfl rfl (leafZ h (wr_n (wr_lit rfl)) (by decide))
  · replace h := ite_f h c1
    refine j_iloadn (k := 2) (D_Hall_acre 5 rfl) rfl rfl ?_
    refine j_if_lt (tgt := 43) (D_Hall_acre 6 rfl) rfl (ha2) (fun c2 => ?_) (fun c2 => ?_)
    · replace h := ite_t h c2
      refine j_iconst (v := 0) (D_Hall_acre 20 rfl) rfl ?_
      exact j_zret (D_Hall_acre 21 rfl) rfl (wr_lit rfl) (nz_01 (by decide)) rfl rfl (leafZ h (wr_n (wr_lit rfl)) (by decide))
    · replace h := ite_f h c2
      refine j_iloadn (k := 2) (D_Hall_acre 7 rfl) rfl rfl ?_
      refine j_bipush (v := 6) (D_Hall_acre 8 rfl) rfl ?_
      refine j_ic_ge (tgt := 43) (D_Hall_acre 9 rfl) rfl (ha2) (wr_lit rfl) (fun c3 => ?_) (fun c3 => ?_)
      · replace h := ite_t h c3
        refine j_iconst (v := 0) (D_Hall_acre 20 rfl) rfl ?_
        exact j_zret (D_Hall_acre 21 rfl) rfl (wr_lit rfl) (nz_01 (by decide)) rfl rfl (leafZ h (wr_n (wr_lit rfl)) (by decide))
      · replace h := ite_f h c3
        refine j_iloadn (k := 3) (D_Hall_acre 10 rfl) rfl rfl ?_
        refine j_if_lt (tgt := 43) (D_Hall_acre 11 rfl) rfl (ha3) (fun c4 => ?_) (fun c4 => ?_)
        · replace h := ite_t h c4
          refine j_iconst (v := 0) (D_Hall_acre 20 rfl) rfl ?_
          exact j_zret (D_Hall_acre 21 rfl) rfl (wr_lit rfl) (nz_01 (by decide)) rfl rfl (leafZ h (wr_n (wr_lit rfl)) (by decide))
        · replace h := ite_f h c4
          refine j_iloadn (k := 3) (D_Hall_acre 12 rfl) rfl rfl ?_
          refine j_bipush (v := 99) (D_Hall_acre 13 rfl) rfl ?_
          refine j_ic_gt (tgt := 43) (D_Hall_acre 14 rfl) rfl (ha3) (wr_lit rfl) (fun c5 => ?_) (fun c5 => ?_)
          · replace h := ite_t h c5
            refine j_iconst (v := 0) (D_Hall_acre 20 rfl) rfl ?_
            exact j_zret (D_Hall_acre 21 rfl) rfl (wr_lit rfl) (nz_01 (by decide)) rfl rfl (leafZ h (wr_n (wr_lit rfl)) (by decide))
          · replace h := ite_f h c5
            refine j_iload (k := 4) (D_Hall_acre 15 rfl) rfl ?_
            refine j_if_lt (tgt := 43) (D_Hall_acre 16 rfl) rfl (ha4) (fun c6 => ?_) (fun c6 => ?_)
            · replace h := ite_t h c6
              refine j_iconst (v := 0) (D_Hall_acre 20 rfl) rfl ?_
              exact j_zret (D_Hall_acre 21 rfl) rfl (wr_lit rfl) (nz_01 (by decide)) rfl rfl (leafZ h (wr_n (wr_lit rfl)) (by decide))
            · replace h := ite_f h c6
              refine j_iload (k := 4) (D_Hall_acre 17 rfl) rfl ?_
              refine j_bipush (v := 99) (D_Hall_acre 18 rfl) rfl ?_
              refine j_ic_le (tgt := 45) (D_Hall_acre 19 rfl) rfl (ha4) (wr_lit rfl) (fun c7 => ?_) (fun c7 => ?_)
              · replace h := ite_t h c7
                refine j_aloadn (k := 0) (D_Hall_acre 22 rfl) rfl rfl ?_
                refine j_getR rfl fa_Hall_19 kd_0 lc_0 (by decide) rfl fx_0_1 (by decide) (D_Hall_acre 23 rfl) ?_
                refine j_getR rfl fa_Hall_151 kd_9 lc_9 (by decide) rfl fx_9_3 (by decide) (D_Hall_acre 24 rfl) ?_
                refine j_iloadn (k := 1) (D_Hall_acre 25 rfl) rfl rfl ?_
                refine j_bipush (v := 6) (D_Hall_acre 26 rfl) rfl ?_
                refine j_imul (D_Hall_acre 27 rfl) ?_
                refine j_iloadn (k := 2) (D_Hall_acre 28 rfl) rfl rfl ?_
                refine j_iadd (D_Hall_acre 29 rfl) ?_
                refine j_iloadn (k := 3) (D_Hall_acre 30 rfl) rfl rfl ?_
                have g1 := gd_c h
                replace h := gd_s h
                refine j_iast (NI := 72) (D_Hall_acre 31 rfl) kd_13 lc_13 (rfl) rfl g1.1 g1.2 ?_
                refine j_gen (fun G1 e2 => ?_)
                replace h := wG_at h e2
                refine j_aloadn (k := 0) (D_Hall_acre 32 rfl) rfl rfl ?_
                refine j_getR rfl fa_Hall_19 kd_0 lc_0 (by decide) rfl fx_0_1 (by decide) (D_Hall_acre 33 rfl) ?_
                refine j_getR rfl fa_Hall_154 kd_9 lc_9 (by decide) rfl fx_9_4 (by decide) (D_Hall_acre 34 rfl) ?_
                refine j_iloadn (k := 1) (D_Hall_acre 35 rfl) rfl rfl ?_
                refine j_bipush (v := 6) (D_Hall_acre 36 rfl) rfl ?_
                refine j_imul (D_Hall_acre 37 rfl) ?_
                refine j_iloadn (k := 2) (D_Hall_acre 38 rfl) rfl rfl ?_
                refine j_iadd (D_Hall_acre 39 rfl) ?_
                refine j_iload (k := 4) (D_Hall_acre 40 rfl) rfl ?_
                have g2 := gd_c h
                replace h := gd_s h
                refine j_iast (NI := 72) (D_Hall_acre 41 rfl) kd_14 lc_14 (rfl) rfl g2.1 g2.2 ?_
                refine j_gen (fun G2 e3 => ?_)
                replace h := wG_at h e3
                refine j_iconst (v := 1) (D_Hall_acre 42 rfl) rfl ?_
                exact j_zret (D_Hall_acre 43 rfl) rfl (wr_lit rfl) (nz_01 (by decide)) rfl rfl (leafZ h (wr_n (wr_lit rfl)) (by decide))
              · replace h := ite_f h c7
                refine j_iconst (v := 0) (D_Hall_acre 20 rfl) rfl ?_
                exact j_zret (D_Hall_acre 21 rfl) rfl (wr_lit rfl) (nz_01 (by decide)) rfl rfl (leafZ h (wr_n (wr_lit rfl)) (by decide))
abbrev M_Model_isLand : MI := (⟨"InquestHallModel", "isLand", "(I)Z"⟩, prog_14_method_15_code, 2, (some .boolean))
theorem cw_Model_isLand : Cond.code M_Model_isLand.1 M_Model_isLand.2.1 M_Model_isLand.2.2.1 M_Model_isLand.2.2.2 ∈ TS := mTS (List.mem_of_getElem? (i := 1617) (by decide +kernel)) (by decide +kernel)
def tb_Model_isLand : List (Nat × Instr × Nat) := [(0, .iload_n 1, 1), (1, .iconst 0, 1), (2, .aload_n 0, 1), (3, .getfield 212, 3), (6, .iconst 1, 1), (7, .isub, 1), (8, .invokestatic 188, 3), (11, .ireturn, 1)]
theorem D_Model_isLand (i : Nat) {pc len : Nat} {ins : Instr} (hi : tb_Model_isLand[i]? = some (pc, ins, len)) : decode M_Model_isLand.2.1 pc = .ok (ins, len) := dec_of (by decide +kernel) i hi
def f_Model_isLand (G : GS) (a1 : Int) : Option (Int) :=
  (f_Model_isIn G a1 0 (wr ((gi G 81 10) - 1))).bind fun q1 =>
  some q1
theorem c_Model_isLand {X : XT} {G : GS} {a1 : Int} {r : Int} (ha1 : wr a1 = a1) (h : f_Model_isLand G a1 = some r) : Call X true 7 0 0 M_Model_isLand [rf X 81, vi a1] NC G (Rz r G) := by
  refine Call_of_J cw_Model_isLand (by decide +kernel) (Nat.le_of_ble_eq_true rfl) ?_
  unfold f_Model_isLand at h
  show J X true 7 0 0 M_Model_isLand (Rz r G) NC 0 0 0 [(0, rf X 81), (1, vi a1)] [] G
  refine j_iloadn (k := 1) (D_Model_isLand 0 rfl) rfl rfl ?_
  refine j_iconst (v := 0) (D_Model_isLand 1 rfl) rfl ?_
  refine j_aloadn (k := 0) (D_Model_isLand 2 rfl) rfl rfl ?_
  refine j_getI rfl fa_Model_212 kd_81 lc_81 (by decide) rfl (D_Model_isLand 3 rfl) ?_
  refine j_iconst (v := 1) (D_Model_isLand 4 rfl) rfl ?_
  refine j_isub (D_Model_isLand 5 rfl) ?_
  refine j_top0 (rfl) ?_
  obtain ⟨q1, e1, h⟩ := Option.bind_eq_some_iff.mp h
  refine j_cSz (c_Model_isIn (ha1) (wr_lit rfl) (wr_wr _) e1) rfl lk_Model_188 sok_Model_isIn (by decide) rfl rfl (Nat.le_of_ble_eq_true rfl) (D_Model_isLand 6 rfl) (fun w1 bw1 => ?_)
  exact j_zret (D_Model_isLand 7 rfl) rfl (w1) (nz_01 bw1) rfl rfl (leafZo h (wr_n (w1)) bw1)
abbrev M_Model_acre : MI := (⟨"InquestHallModel", "acre", "(IIII)Z"⟩, prog_14_method_17_code, 5, (some .boolean))
theorem cw_Model_acre : Cond.code M_Model_acre.1 M_Model_acre.2.1 M_Model_acre.2.2.1 M_Model_acre.2.2.2 ∈ TS := mTS (List.mem_of_getElem? (i := 1613) (by decide +kernel)) (by decide +kernel)
theorem lk_Model_219 : Cond.methodLink "InquestHallModel" 219 M_Model_isLand.1 ∈ TS := mTS (List.mem_of_getElem? (i := 1614) (by decide +kernel)) (by decide +kernel)
theorem mok_Model_isLand : MOK M_Model_isLand 1 := ⟨mTS (List.mem_of_getElem? (i := 1616) (by decide +kernel)) (by decide +kernel), mTS (List.mem_of_getElem? (i := 63) (by decide +kernel)) (by decide +kernel), mTS (List.mem_of_getElem? (i := 139) (by decide +kernel)) (by decide +kernel), cw_Model_isLand, ⟨by decide, by decide, by decide +kernel⟩, by decide +kernel, by decide⟩
theorem fa_Model_43 : FA "InquestHallModel" 43 12 14 true (.array .int) := ⟨_, _, _, _, ok_Model, by decide, mTS (List.mem_of_getElem? (i := 1315) (by decide +kernel)) (by decide +kernel), rfl, rfl⟩
theorem fx_81_14 {G : GS} (w : WF true NC G) : G.2.2 81 14 = 93 := w.2 rfl (81, 14, 93) (by decide)
theorem kd_93 : kd 93 = (0, 72) := rfl
theorem lc_93 : 93 < NC := by decide
theorem fa_Model_46 : FA "InquestHallModel" 46 12 15 true (.array .int) := ⟨_, _, _, _, ok_Model, by decide, mTS (List.mem_of_getElem? (i := 1316) (by decide +kernel)) (by decide +kernel), rfl, rfl⟩
theorem fx_81_15 {G : GS} (w : WF true NC G) : G.2.2 81 15 = 94 := w.2 rfl (81, 15, 94) (by decide)
theorem kd_94 : kd 94 = (0, 72) := rfl
theorem lc_94 : 94 < NC := by decide
def tb_Model_acre : List (Nat × Instr × Nat) := [(0, .aload_n 0, 1), (1, .iload_n 1, 1), (2, .invokevirtual 219, 3), (5, .ifCond .eq 33, 3), (8, .iload_n 2, 1), (9, .iconst 0, 1), (10, .iconst 5, 1), (11, .invokestatic 188, 3), (14, .ifCond .eq 24, 3), (17, .iload_n 3, 1), (18, .iconst 0, 1), (19, .bipush 99, 2), (21, .invokestatic 188, 3), (24, .ifCond .eq 14, 3), (27, .iload 4, 2), (29, .iconst 0, 1), (30, .bipush 99, 2), (32, .invokestatic 188, 3), (35, .ifCond .ne 5, 3), (38, .iconst 0, 1), (39, .ireturn, 1), (40, .aload_n 0, 1), (41, .getfield 43, 3), (44, .bipush 6, 2), (46, .iload_n 1, 1), (47, .imul, 1), (48, .iload_n 2, 1), (49, .iadd, 1), (50, .iload_n 3, 1), (51, .iastore, 1), (52, .aload_n 0, 1), (53, .getfield 46, 3), (56, .bipush 6, 2), (58, .iload_n 1, 1), (59, .imul, 1), (60, .iload_n 2, 1), (61, .iadd, 1), (62, .iload 4, 2), (64, .iastore, 1), (65, .iconst 1, 1), (66, .ireturn, 1)]
theorem D_Model_acre (i : Nat) {pc len : Nat} {ins : Instr} (hi : tb_Model_acre[i]? = some (pc, ins, len)) : decode M_Model_acre.2.1 pc = .ok (ins, len) := dec_of (by decide +kernel) i hi
def f_Model_acre (G : GS) (a1 : Int) (a2 : Int) (a3 : Int) (a4 : Int) : Option (Int × GS) :=
  (f_Model_isLand G a1).bind fun q1 =>
  if q1 = 0 then
    some (0, G)
  else
    (f_Model_isIn G a2 0 5).bind fun q2 =>
    if q2 = 0 then
      some (0, G)
    else
      (f_Model_isIn G a3 0 99).bind fun q3 =>
      if q3 = 0 then
        some (0, G)
      else
        (f_Model_isIn G a4 0 99).bind fun q4 =>
        if q4 = 0 then
          some (0, G)
        else
          gd (0 ≤ wr ((6 * a1) + a2) ∧ wr ((6 * a1) + a2) < 72) <|
          wG (si G 93 (wr ((6 * a1) + a2)).toNat a3) fun G1 =>
          gd (0 ≤ wr ((6 * a1) + a2) ∧ wr ((6 * a1) + a2) < 72) <|
          wG (si G1 94 (wr ((6 * a1) + a2)).toNat a4) fun G2 =>
          some (1, G2)
theorem c_Model_acre {X : XT} {G : GS} {a1 : Int} {a2 : Int} {a3 : Int} {a4 : Int} {r : Int × GS} (ha1 : wr a1 = a1) (ha2 : wr a2 = a2) (ha3 : wr a3 = a3) (ha4 : wr a4 = a4) (h : f_Model_acre G a1 a2 a3 a4 = some r) : Call X true 8 0 0 M_Model_acre [rf X 81, vi a1, vi a2, vi a3, vi a4] NC G (Rz r.1 r.2) := by
  refine Call_of_J cw_Model_acre (by decide +kernel) (Nat.le_of_ble_eq_true rfl) ?_
  unfold f_Model_acre at h
  show J X true 8 0 0 M_Model_acre (Rz r.1 r.2) NC 0 0 0 [(0, rf X 81), (1, vi a1), (2, vi a2), (3, vi a3), (4, vi a4)] [] G
  refine j_aloadn (k := 0) (D_Model_acre 0 rfl) rfl rfl ?_
  refine j_iloadn (k := 1) (D_Model_acre 1 rfl) rfl rfl ?_
  obtain ⟨q1, e1, h⟩ := Option.bind_eq_some_iff.mp h
  refine j_cVz (c_Model_isLand (ha1) e1) rfl lk_Model_219 mok_Model_isLand kd_81 lc_81 rfl (by decide) rfl rfl (Nat.le_of_ble_eq_true rfl) (D_Model_acre 2 rfl) (fun w1 bw1 => ?_)
  refine j_if_eq (tgt := 38) (D_Model_acre 3 rfl) rfl (w1) (fun c1 => ?_) (fun c1 => ?_)
  · replace h := ite_t h c1
    refine j_iconst (v := 0) (D_Model_acre 19 rfl) rfl ?_
    exact j_zret (D_Model_acre 20 rfl) rfl (wr_lit rfl) (nz_01 (by decide)) rfl rfl (leafZ h (wr_n (wr_lit rfl)) (by decide))
  · replace h := ite_f h c1
    refine j_iloadn (k := 2) (D_Model_acre 4 rfl) rfl rfl ?_
    refine j_iconst (v := 0) (D_Model_acre 5 rfl) rfl ?_
    refine j_iconst (v := 5) (D_Model_acre 6 rfl) rfl ?_
    obtain ⟨q2, e2, h⟩ := Option.bind_eq_some_iff.mp h
    refine j_cSz (c_Model_isIn (ha2) (wr_lit rfl) (wr_lit rfl) e2) rfl lk_Model_188 sok_Model_isIn (by decide) rfl rfl (Nat.le_of_ble_eq_true rfl) (D_Model_acre 7 rfl) (fun w2 bw2 => ?_)
    refine j_if_eq (tgt := 38) (D_Model_acre 8 rfl) rfl (w2) (fun c2 => ?_) (fun c2 => ?_)
    · replace h := ite_t h c2
      refine j_iconst (v := 0) (D_Model_acre 19 rfl) rfl ?_
      exact j_zret (D_Model_acre 20 rfl) rfl (wr_lit rfl) (nz_01 (by decide)) rfl rfl (leafZ h (wr_n (wr_lit rfl)) (by decide))
    · replace h := ite_f h c2
      refine j_iloadn (k := 3) (D_Model_acre 9 rfl) rfl rfl ?_
      refine j_iconst (v := 0) (D_Model_acre 10 rfl) rfl ?_
      refine j_bipush (v := 99) (D_Model_acre 11 rfl) rfl ?_
      obtain ⟨q3, e3, h⟩ := Option.bind_eq_some_iff.mp h
      refine j_cSz (c_Model_isIn (ha3) (wr_lit rfl) (wr_lit rfl) e3) rfl lk_Model_188 sok_Model_isIn (by decide) rfl rfl (Nat.le_of_ble_eq_true rfl) (D_Model_acre 12 rfl) (fun w3 bw3 => ?_)
      refine j_if_eq (tgt := 38) (D_Model_acre 13 rfl) rfl (w3) (fun c3 => ?_) (fun c3 => ?_)
      · replace h := ite_t h c3
        refine j_iconst (v := 0) (D_Model_acre 19 rfl) rfl ?_
        exact j_zret (D_Model_acre 20 rfl) rfl (wr_lit rfl) (nz_01 (by decide)) rfl rfl (leafZ h (wr_n (wr_lit rfl)) (by decide))
      · replace h := ite_f h c3
        refine j_iload (k := 4) (D_Model_acre 14 rfl) rfl ?_
        refine j_iconst (v := 0) (D_Model_acre 15 rfl) rfl ?_
        refine j_bipush (v := 99) (D_Model_acre 16 rfl) rfl ?_
        obtain ⟨q4, e4, h⟩ := Option.bind_eq_some_iff.mp h
        refine j_cSz (c_Model_isIn (ha4) (wr_lit rfl) (wr_lit rfl) e4) rfl lk_Model_188 sok_Model_isIn (by decide) rfl rfl (Nat.le_of_ble_eq_true rfl) (D_Model_acre 17 rfl) (fun w4 bw4 => ?_)
        refine j_if_ne (tgt := 40) (D_Model_acre 18 rfl) rfl (w4) (fun c4 => ?_) (fun c4 => ?_)
        · replace h := ite_f h c4
          refine j_aloadn (k := 0) (D_Model_acre 21 rfl) rfl rfl ?_
          refine j_getR rfl fa_Model_43 kd_81 lc_81 (by decide) rfl fx_81_14 (by decide) (D_Model_acre 22 rfl) ?_
          refine j_bipush (v := 6) (D_Model_acre 23 rfl) rfl ?_
          refine j_iloadn (k := 1) (D_Model_acre 24 rfl) rfl rfl ?_
          refine j_imul (D_Model_acre 25 rfl) ?_
          refine j_iloadn (k := 2) (D_Model_acre 26 rfl) rfl rfl ?_
          refine j_iadd (D_Model_acre 27 rfl) ?_
          refine j_iloadn (k := 3) (D_Model_acre 28 rfl) rfl rfl ?_
          have g1 := gd_c h
          replace h := gd_s h
          refine j_iast (NI := 72) (D_Model_acre 29 rfl) kd_93 lc_93 (rfl) rfl g1.1 g1.2 ?_
          refine j_gen (fun G1 e5 => ?_)
          replace h := wG_at h e5
          refine j_aloadn (k := 0) (D_Model_acre 30 rfl) rfl rfl ?_
          refine j_getR rfl fa_Model_46 kd_81 lc_81 (by decide) rfl fx_81_15 (by decide) (D_Model_acre 31 rfl) ?_
          refine j_bipush (v := 6) (D_Model_acre 32 rfl) rfl ?_
          refine j_iloadn (k := 1) (D_Model_acre 33 rfl) rfl rfl ?_
          refine j_imul (D_Model_acre 34 rfl) ?_
          refine j_iloadn (k := 2) (D_Model_acre 35 rfl) rfl rfl ?_
          refine j_iadd (D_Model_acre 36 rfl) ?_
          refine j_iload (k := 4) (D_Model_acre 37 rfl) rfl ?_
          have g2 := gd_c h
          replace h := gd_s h
          refine j_iast (NI := 72) (D_Model_acre 38 rfl) kd_94 lc_94 (rfl) rfl g2.1 g2.2 ?_
          refine j_gen (fun G2 e6 => ?_)
          replace h := wG_at h e6
          refine j_iconst (v := 1) (D_Model_acre 39 rfl) rfl ?_
          exact j_zret (D_Model_acre 40 rfl) rfl (wr_lit rfl) (nz_01 (by decide)) rfl rfl (leafZ h (wr_n (wr_lit rfl)) (by decide))
        · replace h := ite_t h c4
          refine j_iconst (v := 0) (D_Model_acre 19 rfl) rfl ?_
          exact j_zret (D_Model_acre 20 rfl) rfl (wr_lit rfl) (nz_01 (by decide)) rfl rfl (leafZ h (wr_n (wr_lit rfl)) (by decide))
abbrev M_Lands_worthOfSet : MI := (⟨"InquestHall$Lands", "worthOfSet", "(II)I"⟩, prog_4_method_6_code, 5, (some .int))
theorem cw_Lands_worthOfSet : Cond.code M_Lands_worthOfSet.1 M_Lands_worthOfSet.2.1 M_Lands_worthOfSet.2.2.1 M_Lands_worthOfSet.2.2.2 ∈ TS := mTS (List.mem_of_getElem? (i := 722) (by decide +kernel)) (by decide +kernel)
theorem fa_Lands_21 : FA "InquestHall$Lands" 21 2 3 true (.array .int) := ⟨_, _, _, _, ok_Lands, by decide, mTS (List.mem_of_getElem? (i := 206) (by decide +kernel)) (by decide +kernel), rfl, rfl⟩
def tb_Lands_worthOfSet : List (Nat × Instr × Nat) := [(0, .iconst 0, 1), (1, .istore_n 3, 1), (2, .iconst 0, 1), (3, .istore 4, 2), (5, .iload 4, 2), (7, .bipush 6, 2), (9, .if_icmp .ge 33, 3), (12, .iload_n 2, 1), (13, .iconst 1, 1), (14, .iload 4, 2), (16, .ishl, 1), (17, .iand, 1), (18, .ifCond .eq 18, 3), (21, .iload_n 3, 1), (22, .aload_n 0, 1), (23, .getfield 21, 3), (26, .iload_n 1, 1), (27, .bipush 6, 2), (29, .imul, 1), (30, .iload 4, 2), (32, .iadd, 1), (33, .iaload, 1), (34, .iadd, 1), (35, .istore_n 3, 1), (36, .iinc 4 1, 3), (39, .goto (-34), 3), (42, .iload_n 3, 1), (43, .ireturn, 1)]
theorem D_Lands_worthOfSet (i : Nat) {pc len : Nat} {ins : Instr} (hi : tb_Lands_worthOfSet[i]? = some (pc, ins, len)) : decode M_Lands_worthOfSet.2.1 pc = .ok (ins, len) := dec_of (by decide +kernel) i hi
def f_Lands_worthOfSet_L36 (G : GS) (k5 : Int → Int → Int → Int → Option (Int)) (x1 : Int) (x2 : Int) (x3 : Int) (x4 : Int) : Option (Int) :=
  k5 x1 x2 x3 (wr (x4 + 1))
theorem s_Lands_worthOfSet_L36 {X : XT} {G : GS} {r : Int} {k5 : Int → Int → Int → Int → Option (Int)} (hk5 : ∀ {x1 : Int} {x2 : Int} {x3 : Int} {x4 : Int} , wr x1 = x1 → wr x2 = x2 → wr x3 = x3 → wr x4 = x4 → k5 x1 x2 x3 x4 = some r → J X true 6 0 0 M_Lands_worthOfSet (Ri r G) NC 0 0 5 [(0, rf X 9), (1, vi x1), (2, vi x2), (3, vi x3), (4, vi x4)] [] G) : ∀ {x1 : Int} {x2 : Int} {x3 : Int} {x4 : Int}, wr x1 = x1 → wr x2 = x2 → wr x3 = x3 → wr x4 = x4 → f_Lands_worthOfSet_L36 G k5 x1 x2 x3 x4 = some r → J X true 6 0 0 M_Lands_worthOfSet (Ri r G) NC 0 0 36 [(0, rf X 9), (1, vi x1), (2, vi x2), (3, vi x3), (4, vi x4)] [] G := by
  intro x1 x2 x3 x4 hx1 hx2 hx3 hx4 h
  unfold f_Lands_worthOfSet_L36 at h
  refine j_iinc (k := 4) (L' := [(4, vi (wr (x4 + 1))), (0, rf X 9), (1, vi x1), (2, vi x2), (3, vi x3)]) (D_Lands_worthOfSet 24 rfl) rfl rfl (by decide) rfl ?_
  refine j_goto (tgt := 5) (D_Lands_worthOfSet 25 rfl) rfl ?_
  refine j_loc [1, 2, 3, 4, 0] rfl ?_
  exact hk5 (hx1) (hx2) (hx3) (wr_wr _) h
def f_Lands_worthOfSet_L5 (G : GS) : Nat → Int → Int → Int → Int → Option (Int)
  | 0, _, _, _, _ => none
  | n + 1, x1, x2, x3, x4 =>
    if 6 ≤ x4 then
      some x3
    else
      if bAnd x2 (bShl 1 x4) = 0 then
        f_Lands_worthOfSet_L36 G (f_Lands_worthOfSet_L5 G n) x1 x2 x3 x4
      else
        gd (0 ≤ wr ((x1 * 6) + x4) ∧ wr ((x1 * 6) + x4) < 72) <|
        f_Lands_worthOfSet_L36 G (f_Lands_worthOfSet_L5 G n) x1 x2 (wr (x3 + (gi G 13 (wr ((x1 * 6) + x4)).toNat))) x4
theorem s_Lands_worthOfSet_L5 {X : XT} {G : GS} {r : Int} : ∀ (n : Nat) {x1 : Int} {x2 : Int} {x3 : Int} {x4 : Int}, wr x1 = x1 → wr x2 = x2 → wr x3 = x3 → wr x4 = x4 → f_Lands_worthOfSet_L5 G n x1 x2 x3 x4 = some r → J X true 6 0 0 M_Lands_worthOfSet (Ri r G) NC 0 0 5 [(0, rf X 9), (1, vi x1), (2, vi x2), (3, vi x3), (4, vi x4)] [] G := by
  intro n
  induction n with
  | zero =>
    intro x1 x2 x3 x4 hx1 hx2 hx3 hx4 h
    exact none_some h
  | succ n ih =>
    intro x1 x2 x3 x4 hx1 hx2 hx3 hx4 h
    rw [f_Lands_worthOfSet_L5] at h
    refine j_iload (k := 4) (D_Lands_worthOfSet 4 rfl) rfl ?_
    refine j_bipush (v := 6) (D_Lands_worthOfSet 5 rfl) rfl ?_
    refine j_ic_ge (tgt := 42) (D_Lands_worthOfSet 6 rfl) rfl (hx4) (wr_lit rfl) (fun c1 => ?_) (fun c1 => ?_)
    · replace h := ite_t h c1
      refine j_iloadn (k := 3) (D_Lands_worthOfSet 26 rfl) rfl rfl ?_
      exact j_iret (D_Lands_worthOfSet 27 rfl) rfl (hx3) rfl rfl (leafIo h (wr_n (hx3)))
    · replace h := ite_f h c1
      refine j_iloadn (k := 2) (D_Lands_worthOfSet 7 rfl) rfl rfl ?_
      refine j_iconst (v := 1) (D_Lands_worthOfSet 8 rfl) rfl ?_
      refine j_iload (k := 4) (D_Lands_worthOfSet 9 rfl) rfl ?_
      refine j_ishl (D_Lands_worthOfSet 10 rfl) ?_
      refine j_iand (D_Lands_worthOfSet 11 rfl) ?_
      refine j_if_eq (tgt := 36) (D_Lands_worthOfSet 12 rfl) rfl (wr_bAnd _ _) (fun c2 => ?_) (fun c2 => ?_)
      · replace h := ite_t h c2
        refine j_loc [0, 1, 2, 3, 4] rfl ?_
        exact s_Lands_worthOfSet_L36 ih (hx1) (hx2) (hx3) (hx4) h
      · replace h := ite_f h c2
        refine j_iloadn (k := 3) (D_Lands_worthOfSet 13 rfl) rfl rfl ?_
        refine j_aloadn (k := 0) (D_Lands_worthOfSet 14 rfl) rfl rfl ?_
        refine j_getR rfl fa_Lands_21 kd_9 lc_9 (by decide) rfl fx_9_3 (by decide) (D_Lands_worthOfSet 15 rfl) ?_
        refine j_iloadn (k := 1) (D_Lands_worthOfSet 16 rfl) rfl rfl ?_
        refine j_bipush (v := 6) (D_Lands_worthOfSet 17 rfl) rfl ?_
        refine j_imul (D_Lands_worthOfSet 18 rfl) ?_
        refine j_iload (k := 4) (D_Lands_worthOfSet 19 rfl) rfl ?_
        refine j_iadd (D_Lands_worthOfSet 20 rfl) ?_
        have g1 := gd_c h
        replace h := gd_s h
        refine j_iald (NI := 72) (D_Lands_worthOfSet 21 rfl) kd_13 lc_13 (rfl) rfl g1.1 g1.2 ?_
        refine j_iadd (D_Lands_worthOfSet 22 rfl) ?_
        refine j_istoren (L' := [(3, vi (wr (x3 + (gi G 13 (wr ((x1 * 6) + x4)).toNat)))), (0, rf X 9), (1, vi x1), (2, vi x2), (4, vi x4)]) (D_Lands_worthOfSet 23 rfl) rfl (rfl) (by decide) rfl ?_
        refine j_loc [1, 2, 3, 0, 4] rfl ?_
        exact s_Lands_worthOfSet_L36 ih (hx1) (hx2) (wr_wr _) (hx4) h
def f_Lands_worthOfSet (G : GS) (a1 : Int) (a2 : Int) : Option (Int) :=
  f_Lands_worthOfSet_L5 G FU a1 a2 0 0
theorem c_Lands_worthOfSet {X : XT} {G : GS} {a1 : Int} {a2 : Int} {r : Int} (ha1 : wr a1 = a1) (ha2 : wr a2 = a2) (h : f_Lands_worthOfSet G a1 a2 = some r) : Call X true 6 0 0 M_Lands_worthOfSet [rf X 9, vi a1, vi a2] NC G (Ri r G) := by
  refine Call_of_J cw_Lands_worthOfSet (by decide +kernel) (Nat.le_of_ble_eq_true rfl) ?_
  unfold f_Lands_worthOfSet at h
  show J X true 6 0 0 M_Lands_worthOfSet (Ri r G) NC 0 0 0 [(0, rf X 9), (1, vi a1), (2, vi a2)] [] G
  refine j_iconst (v := 0) (D_Lands_worthOfSet 0 rfl) rfl ?_
  refine j_istoren (L' := [(3, vi 0), (0, rf X 9), (1, vi a1), (2, vi a2)]) (D_Lands_worthOfSet 1 rfl) rfl (wr_lit rfl) (by decide) rfl ?_
  refine j_iconst (v := 0) (D_Lands_worthOfSet 2 rfl) rfl ?_
  refine j_istore (L' := [(4, vi 0), (3, vi 0), (0, rf X 9), (1, vi a1), (2, vi a2)]) (D_Lands_worthOfSet 3 rfl) (wr_lit rfl) (by decide) rfl ?_
  refine j_loc [2, 3, 4, 1, 0] rfl ?_
  exact s_Lands_worthOfSet_L5 FU (ha1) (ha2) (wr_lit rfl) (wr_lit rfl) h
abbrev M_Lands_worthOf : MI := (⟨"InquestHall$Lands", "worthOf", "(I)I"⟩, prog_4_method_5_code, 2, (some .int))
theorem cw_Lands_worthOf : Cond.code M_Lands_worthOf.1 M_Lands_worthOf.2.1 M_Lands_worthOf.2.2.1 M_Lands_worthOf.2.2.2 ∈ TS := mTS (List.mem_of_getElem? (i := 718) (by decide +kernel)) (by decide +kernel)
theorem lk_Lands_35 : Cond.methodLink "InquestHall$Lands" 35 M_Lands_worthOfSet.1 ∈ TS := mTS (List.mem_of_getElem? (i := 719) (by decide +kernel)) (by decide +kernel)
theorem mok_Lands_worthOfSet : MOK M_Lands_worthOfSet 2 := ⟨mTS (List.mem_of_getElem? (i := 720) (by decide +kernel)) (by decide +kernel), mTS (List.mem_of_getElem? (i := 721) (by decide +kernel)) (by decide +kernel), mTS (List.mem_of_getElem? (i := 124) (by decide +kernel)) (by decide +kernel), cw_Lands_worthOfSet, ⟨by decide, by decide, by decide +kernel⟩, by decide +kernel, by decide⟩
def tb_Lands_worthOf : List (Nat × Instr × Nat) := [(0, .aload_n 0, 1), (1, .iload_n 1, 1), (2, .bipush 63, 2), (4, .invokevirtual 35, 3), (7, .ireturn, 1)]
theorem D_Lands_worthOf (i : Nat) {pc len : Nat} {ins : Instr} (hi : tb_Lands_worthOf[i]? = some (pc, ins, len)) : decode M_Lands_worthOf.2.1 pc = .ok (ins, len) := dec_of (by decide +kernel) i hi
def f_Lands_worthOf (G : GS) (a1 : Int) : Option (Int) :=
  (f_Lands_worthOfSet G a1 63).bind fun q1 =>
  some q1
theorem c_Lands_worthOf {X : XT} {G : GS} {a1 : Int} {r : Int} (ha1 : wr a1 = a1) (h : f_Lands_worthOf G a1 = some r) : Call X true 7 0 0 M_Lands_worthOf [rf X 9, vi a1] NC G (Ri r G) := by
  refine Call_of_J cw_Lands_worthOf (by decide +kernel) (Nat.le_of_ble_eq_true rfl) ?_
  unfold f_Lands_worthOf at h
  show J X true 7 0 0 M_Lands_worthOf (Ri r G) NC 0 0 0 [(0, rf X 9), (1, vi a1)] [] G
  refine j_aloadn (k := 0) (D_Lands_worthOf 0 rfl) rfl rfl ?_
  refine j_iloadn (k := 1) (D_Lands_worthOf 1 rfl) rfl rfl ?_
  refine j_bipush (v := 63) (D_Lands_worthOf 2 rfl) rfl ?_
  obtain ⟨q1, e1, h⟩ := Option.bind_eq_some_iff.mp h
  refine j_cVi (c_Lands_worthOfSet (ha1) (wr_lit rfl) e1) rfl lk_Lands_35 mok_Lands_worthOfSet kd_9 lc_9 rfl (by decide) rfl rfl (Nat.le_of_ble_eq_true rfl) (D_Lands_worthOf 3 rfl) (fun w1 => ?_)
  exact j_iret (D_Lands_worthOf 4 rfl) rfl (w1) rfl rfl (leafIo h (wr_n (w1)))
abbrev M_Lands_told : MI := (⟨"InquestHall$Lands", "told", "(II)I"⟩, prog_4_method_4_code, 3, (some .int))
theorem cw_Lands_told : Cond.code M_Lands_told.1 M_Lands_told.2.1 M_Lands_told.2.2.1 M_Lands_told.2.2.2 ∈ TS := mTS (List.mem_of_getElem? (i := 714) (by decide +kernel)) (by decide +kernel)
theorem fa_Lands_24 : FA "InquestHall$Lands" 24 2 4 true (.array .int) := ⟨_, _, _, _, ok_Lands, by decide, mTS (List.mem_of_getElem? (i := 208) (by decide +kernel)) (by decide +kernel), rfl, rfl⟩
theorem lk_Lands_31 : Cond.methodLink "InquestHall$Lands" 31 M_Lands_worthOf.1 ∈ TS := mTS (List.mem_of_getElem? (i := 715) (by decide +kernel)) (by decide +kernel)
theorem mok_Lands_worthOf : MOK M_Lands_worthOf 1 := ⟨mTS (List.mem_of_getElem? (i := 716) (by decide +kernel)) (by decide +kernel), mTS (List.mem_of_getElem? (i := 717) (by decide +kernel)) (by decide +kernel), mTS (List.mem_of_getElem? (i := 124) (by decide +kernel)) (by decide +kernel), cw_Lands_worthOf, ⟨by decide, by decide, by decide +kernel⟩, by decide +kernel, by decide⟩
def tb_Lands_told : List (Nat × Instr × Nat) := [(0, .iload_n 2, 1), (1, .bipush 10, 2), (3, .if_icmp .lt 24, 3), (6, .iload_n 2, 1), (7, .bipush 16, 2), (9, .if_icmp .ge 18, 3), (12, .aload_n 0, 1), (13, .getfield 21, 3), (16, .iload_n 1, 1), (17, .bipush 6, 2), (19, .imul, 1), (20, .iload_n 2, 1), (21, .iadd, 1), (22, .bipush 10, 2), (24, .isub, 1), (25, .iaload, 1), (26, .ireturn, 1), (27, .iload_n 2, 1), (28, .bipush 20, 2), (30, .if_icmp .lt 24, 3), (33, .iload_n 2, 1), (34, .bipush 26, 2), (36, .if_icmp .ge 18, 3), (39, .aload_n 0, 1), (40, .getfield 24, 3), (43, .iload_n 1, 1), (44, .bipush 6, 2), (46, .imul, 1), (47, .iload_n 2, 1), (48, .iadd, 1), (49, .bipush 20, 2), (51, .isub, 1), (52, .iaload, 1), (53, .ireturn, 1), (54, .iload_n 2, 1), (55, .tableswitch 56 0 3 #[29, 36, 43, 50], 29), (84, .aload_n 0, 1), (85, .getfield 11, 3), (88, .iload_n 1, 1), (89, .iaload, 1), (90, .ireturn, 1), (91, .aload_n 0, 1), (92, .getfield 15, 3), (95, .iload_n 1, 1), (96, .iaload, 1), (97, .ireturn, 1), (98, .aload_n 0, 1), (99, .getfield 18, 3), (102, .iload_n 1, 1), (103, .iaload, 1), (104, .ireturn, 1), (105, .aload_n 0, 1), (106, .iload_n 1, 1), (107, .invokevirtual 31, 3), (110, .ireturn, 1), (111, .iconst (-1), 1), (112, .ireturn, 1)]
theorem D_Lands_told (i : Nat) {pc len : Nat} {ins : Instr} (hi : tb_Lands_told[i]? = some (pc, ins, len)) : decode M_Lands_told.2.1 pc = .ok (ins, len) := dec_of (by decide +kernel) i hi
def f_Lands_told_L54 (G : GS) (x1 : Int) (x2 : Int) : Option (Int) :=
  if x2 = 0 then
    gd (0 ≤ x1 ∧ x1 < 12) <|
    some (gi G 10 x1.toNat)
  else
    if x2 = 1 then
      gd (0 ≤ x1 ∧ x1 < 12) <|
      some (gi G 11 x1.toNat)
    else
      if x2 = 2 then
        gd (0 ≤ x1 ∧ x1 < 12) <|
        some (gi G 12 x1.toNat)
      else
        if x2 = 3 then
          (f_Lands_worthOf G x1).bind fun q1 =>
          some q1
        else
          some (-1)
theorem s_Lands_told_L54 {X : XT} {G : GS} {r : Int} : ∀ {x1 : Int} {x2 : Int}, wr x1 = x1 → wr x2 = x2 → f_Lands_told_L54 G x1 x2 = some r → J X true 8 0 0 M_Lands_told (Ri r G) NC 0 0 54 [(0, rf X 9), (1, vi x1), (2, vi x2)] [] G := by
  intro x1 x2 hx1 hx2 h
  unfold f_Lands_told_L54 at h
  refine j_iloadn (k := 2) (D_Lands_told 34 rfl) rfl rfl ?_
  by_cases c1 : x2 = 0
  · replace h := ite_t h c1
    refine j_tIn (tgt := 84) (D_Lands_told 35 rfl) (hx2) c1 (by decide) (by decide) rfl rfl ?_
    refine j_aloadn (k := 0) (D_Lands_told 36 rfl) rfl rfl ?_
    refine j_getR rfl fa_Lands_11 kd_9 lc_9 (by decide) rfl fx_9_0 (by decide) (D_Lands_told 37 rfl) ?_
    refine j_iloadn (k := 1) (D_Lands_told 38 rfl) rfl rfl ?_
    have g1 := gd_c h
    replace h := gd_s h
    refine j_iald (NI := 12) (D_Lands_told 39 rfl) kd_10 lc_10 (hx1) rfl g1.1 g1.2 ?_
    exact j_iret (D_Lands_told 40 rfl) rfl (wr_gi _ _ _) rfl rfl (leafIo h (wr_n (wr_gi _ _ _)))
  · replace h := ite_f h c1
    by_cases c2 : x2 = 1
    · replace h := ite_t h c2
      refine j_tIn (tgt := 91) (D_Lands_told 35 rfl) (hx2) c2 (by decide) (by decide) rfl rfl ?_
      refine j_aloadn (k := 0) (D_Lands_told 41 rfl) rfl rfl ?_
      refine j_getR rfl fa_Lands_15 kd_9 lc_9 (by decide) rfl fx_9_1 (by decide) (D_Lands_told 42 rfl) ?_
      refine j_iloadn (k := 1) (D_Lands_told 43 rfl) rfl rfl ?_
      have g2 := gd_c h
      replace h := gd_s h
      refine j_iald (NI := 12) (D_Lands_told 44 rfl) kd_11 lc_11 (hx1) rfl g2.1 g2.2 ?_
      exact j_iret (D_Lands_told 45 rfl) rfl (wr_gi _ _ _) rfl rfl (leafIo h (wr_n (wr_gi _ _ _)))
    · replace h := ite_f h c2
      by_cases c3 : x2 = 2
      · replace h := ite_t h c3
        refine j_tIn (tgt := 98) (D_Lands_told 35 rfl) (hx2) c3 (by decide) (by decide) rfl rfl ?_
        refine j_aloadn (k := 0) (D_Lands_told 46 rfl) rfl rfl ?_
        refine j_getR rfl fa_Lands_18 kd_9 lc_9 (by decide) rfl fx_9_2 (by decide) (D_Lands_told 47 rfl) ?_
        refine j_iloadn (k := 1) (D_Lands_told 48 rfl) rfl rfl ?_
        have g3 := gd_c h
        replace h := gd_s h
        refine j_iald (NI := 12) (D_Lands_told 49 rfl) kd_12 lc_12 (hx1) rfl g3.1 g3.2 ?_
        exact j_iret (D_Lands_told 50 rfl) rfl (wr_gi _ _ _) rfl rfl (leafIo h (wr_n (wr_gi _ _ _)))
      · replace h := ite_f h c3
        by_cases c4 : x2 = 3
        · replace h := ite_t h c4
          refine j_tIn (tgt := 105) (D_Lands_told 35 rfl) (hx2) c4 (by decide) (by decide) rfl rfl ?_
          refine j_aloadn (k := 0) (D_Lands_told 51 rfl) rfl rfl ?_
          refine j_iloadn (k := 1) (D_Lands_told 52 rfl) rfl rfl ?_
          obtain ⟨q1, e1, h⟩ := Option.bind_eq_some_iff.mp h
          refine j_cVi (c_Lands_worthOf (hx1) e1) rfl lk_Lands_31 mok_Lands_worthOf kd_9 lc_9 rfl (by decide) rfl rfl (Nat.le_of_ble_eq_true rfl) (D_Lands_told 53 rfl) (fun w1 => ?_)
          exact j_iret (D_Lands_told 54 rfl) rfl (w1) rfl rfl (leafIo h (wr_n (w1)))
        · replace h := ite_f h c4
          refine j_tOut (tgt := 111) (D_Lands_told 35 rfl) (hx2) (by omega) rfl ?_
          refine j_iconst (v := (-1)) (D_Lands_told 55 rfl) rfl ?_
          exact j_iret (D_Lands_told 56 rfl) rfl (wr_lit rfl) rfl rfl (leafIo h (wr_n (wr_lit rfl)))
def f_Lands_told_L27 (G : GS) (x1 : Int) (x2 : Int) : Option (Int) :=
  if x2 < 20 then
    f_Lands_told_L54 G x1 x2
  else
    if 26 ≤ x2 then
      f_Lands_told_L54 G x1 x2
    else
      gd (0 ≤ wr (((x1 * 6) + x2) - 20) ∧ wr (((x1 * 6) + x2) - 20) < 72) <|
      some (gi G 14 (wr (((x1 * 6) + x2) - 20)).toNat)
theorem s_Lands_told_L27 {X : XT} {G : GS} {r : Int} : ∀ {x1 : Int} {x2 : Int}, wr x1 = x1 → wr x2 = x2 → f_Lands_told_L27 G x1 x2 = some r → J X true 8 0 0 M_Lands_told (Ri r G) NC 0 0 27 [(0, rf X 9), (1, vi x1), (2, vi x2)] [] G := by
  intro x1 x2 hx1 hx2 h
  unfold f_Lands_told_L27 at h
  refine j_iloadn (k := 2) (D_Lands_told 17 rfl) rfl rfl ?_
  refine j_bipush (v := 20) (D_Lands_told 18 rfl) rfl ?_
  refine j_ic_lt (tgt := 54) (D_Lands_told 19 rfl) rfl (hx2) (wr_lit rfl) (fun c1 => ?_) (fun c1 => ?_)
  · replace h := ite_t h c1
    refine j_loc [0, 1, 2] rfl ?_
    exact s_Lands_told_L54 (hx1) (hx2) h
  · replace h := ite_f h c1
    refine j_iloadn (k := 2) (D_Lands_told 20 rfl) rfl rfl ?_
    refine j_bipush (v := 26) (D_Lands_told 21 rfl) rfl ?_
    refine j_ic_ge (tgt := 54) (D_Lands_told 22 rfl) rfl (hx2) (wr_lit rfl) (fun c2 => ?_) (fun c2 => ?_)
    · replace h := ite_t h c2
      refine j_loc [0, 1, 2] rfl ?_
      exact s_Lands_told_L54 (hx1) (hx2) h
    · replace h := ite_f h c2
      refine j_aloadn (k := 0) (D_Lands_told 23 rfl) rfl rfl ?_
      refine j_getR rfl fa_Lands_24 kd_9 lc_9 (by decide) rfl fx_9_4 (by decide) (D_Lands_told 24 rfl) ?_
      refine j_iloadn (k := 1) (D_Lands_told 25 rfl) rfl rfl ?_
      refine j_bipush (v := 6) (D_Lands_told 26 rfl) rfl ?_
      refine j_imul (D_Lands_told 27 rfl) ?_
      refine j_iloadn (k := 2) (D_Lands_told 28 rfl) rfl rfl ?_
      refine j_iadd (D_Lands_told 29 rfl) ?_
      refine j_bipush (v := 20) (D_Lands_told 30 rfl) rfl ?_
      refine j_isub (D_Lands_told 31 rfl) ?_
      have g1 := gd_c h
      replace h := gd_s h
      refine j_iald (NI := 72) (D_Lands_told 32 rfl) kd_14 lc_14 (rfl) rfl g1.1 g1.2 ?_
      exact j_iret (D_Lands_told 33 rfl) rfl (wr_gi _ _ _) rfl rfl (leafIo h (wr_n (wr_gi _ _ _)))
def f_Lands_told (G : GS) (a1 : Int) (a2 : Int) : Option (Int) :=
  if a2 < 10 then
    f_Lands_told_L27 G a1 a2
  else
    if 16 ≤ a2 then
      f_Lands_told_L27 G a1 a2
    else
      gd (0 ≤ wr (((a1 * 6) + a2) - 10) ∧ wr (((a1 * 6) + a2) - 10) < 72) <|
      some (gi G 13 (wr (((a1 * 6) + a2) - 10)).toNat)
theorem c_Lands_told {X : XT} {G : GS} {a1 : Int} {a2 : Int} {r : Int} (ha1 : wr a1 = a1) (ha2 : wr a2 = a2) (h : f_Lands_told G a1 a2 = some r) : Call X true 8 0 0 M_Lands_told [rf X 9, vi a1, vi a2] NC G (Ri r G) := by
  refine Call_of_J cw_Lands_told (by decide +kernel) (Nat.le_of_ble_eq_true rfl) ?_
  unfold f_Lands_told at h
  show J X true 8 0 0 M_Lands_told (Ri r G) NC 0 0 0 [(0, rf X 9), (1, vi a1), (2, vi a2)] [] G
  refine j_iloadn (k := 2) (D_Lands_told 0 rfl) rfl rfl ?_
  refine j_bipush (v := 10) (D_Lands_told 1 rfl) rfl ?_
  refine j_ic_lt (tgt := 27) (D_Lands_told 2 rfl) rfl (ha2) (wr_lit rfl) (fun c1 => ?_) (fun c1 => ?_)
  · replace h := ite_t h c1
    refine j_loc [0, 1, 2] rfl ?_
    exact s_Lands_told_L27 (ha1) (ha2) h
  · replace h := ite_f h c1
    refine j_iloadn (k := 2) (D_Lands_told 3 rfl) rfl rfl ?_
    refine j_bipush (v := 16) (D_Lands_told 4 rfl) rfl ?_
    refine j_ic_ge (tgt := 27) (D_Lands_told 5 rfl) rfl (ha2) (wr_lit rfl) (fun c2 => ?_) (fun c2 => ?_)
    · replace h := ite_t h c2
      refine j_loc [0, 1, 2] rfl ?_
      exact s_Lands_told_L27 (ha1) (ha2) h
    · replace h := ite_f h c2
      refine j_aloadn (k := 0) (D_Lands_told 6 rfl) rfl rfl ?_
      refine j_getR rfl fa_Lands_21 kd_9 lc_9 (by decide) rfl fx_9_3 (by decide) (D_Lands_told 7 rfl) ?_
      refine j_iloadn (k := 1) (D_Lands_told 8 rfl) rfl rfl ?_
      refine j_bipush (v := 6) (D_Lands_told 9 rfl) rfl ?_
      refine j_imul (D_Lands_told 10 rfl) ?_
      refine j_iloadn (k := 2) (D_Lands_told 11 rfl) rfl rfl ?_
      refine j_iadd (D_Lands_told 12 rfl) ?_
      refine j_bipush (v := 10) (D_Lands_told 13 rfl) rfl ?_
      refine j_isub (D_Lands_told 14 rfl) ?_
      have g1 := gd_c h
      replace h := gd_s h
      refine j_iald (NI := 72) (D_Lands_told 15 rfl) kd_13 lc_13 (rfl) rfl g1.1 g1.2 ?_
      exact j_iret (D_Lands_told 16 rfl) rfl (wr_gi _ _ _) rfl rfl (leafIo h (wr_n (wr_gi _ _ _)))
abbrev M_Hall_landOf : MI := (⟨"InquestHall", "landOf", "(II)I"⟩, prog_1_method_10_code, 3, (some .int))
theorem cw_Hall_landOf : Cond.code M_Hall_landOf.1 M_Hall_landOf.2.1 M_Hall_landOf.2.2.1 M_Hall_landOf.2.2.2 ∈ TS := mTS (List.mem_of_getElem? (i := 710) (by decide +kernel)) (by decide +kernel)
theorem lk_Hall_157 : Cond.methodLink "InquestHall" 157 M_Lands_told.1 ∈ TS := mTS (List.mem_of_getElem? (i := 711) (by decide +kernel)) (by decide +kernel)
theorem mok_Lands_told : MOK M_Lands_told 2 := ⟨mTS (List.mem_of_getElem? (i := 712) (by decide +kernel)) (by decide +kernel), mTS (List.mem_of_getElem? (i := 713) (by decide +kernel)) (by decide +kernel), mTS (List.mem_of_getElem? (i := 124) (by decide +kernel)) (by decide +kernel), cw_Lands_told, ⟨by decide, by decide, by decide +kernel⟩, by decide +kernel, by decide⟩
def tb_Hall_landOf : List (Nat × Instr × Nat) := [(0, .aload_n 0, 1), (1, .getfield 19, 3), (4, .iload_n 1, 1), (5, .invokevirtual 150, 3), (8, .ifCond .eq 15, 3), (11, .aload_n 0, 1), (12, .getfield 19, 3), (15, .iload_n 1, 1), (16, .iload_n 2, 1), (17, .invokevirtual 157, 3), (20, .goto 4, 3), (23, .iconst (-1), 1), (24, .ireturn, 1)]
theorem D_Hall_landOf (i : Nat) {pc len : Nat} {ins : Instr} (hi : tb_Hall_landOf[i]? = some (pc, ins, len)) : decode M_Hall_landOf.2.1 pc = .ok (ins, len) := dec_of (by decide +kernel) i hi
def f_Hall_landOf (G : GS) (a1 : Int) (a2 : Int) : Option (Int) :=
  (f_Lands_has G a1).bind fun q1 =>
  if q1 = 0 then
    some (-1)
  else
    (f_Lands_told G a1 a2).bind fun q2 =>
    some q2
theorem c_Hall_landOf {X : XT} {G : GS} {a1 : Int} {a2 : Int} {r : Int} (ha1 : wr a1 = a1) (ha2 : wr a2 = a2) (h : f_Hall_landOf G a1 a2 = some r) : Call X true 9 0 0 M_Hall_landOf [rf X 0, vi a1, vi a2] NC G (Ri r G) := by
  refine Call_of_J cw_Hall_landOf (by decide +kernel) (Nat.le_of_ble_eq_true rfl) ?_
  unfold f_Hall_landOf at h
  show J X true 9 0 0 M_Hall_landOf (Ri r G) NC 0 0 0 [(0, rf X 0), (1, vi a1), (2, vi a2)] [] G
  refine j_aloadn (k := 0) (D_Hall_landOf 0 rfl) rfl rfl ?_
  refine j_getR rfl fa_Hall_19 kd_0 lc_0 (by decide) rfl fx_0_1 (by decide) (D_Hall_landOf 1 rfl) ?_
  refine j_iloadn (k := 1) (D_Hall_landOf 2 rfl) rfl rfl ?_
  obtain ⟨q1, e1, h⟩ := Option.bind_eq_some_iff.mp h
  refine j_cVz (c_Lands_has (ha1) e1) rfl lk_Hall_150 mok_Lands_has kd_9 lc_9 rfl (by decide) rfl rfl (Nat.le_of_ble_eq_true rfl) (D_Hall_landOf 3 rfl) (fun w1 bw1 => ?_)
  refine j_if_eq (tgt := 23) (D_Hall_landOf 4 rfl) rfl (w1) (fun c1 => ?_) (fun c1 => ?_)
  · replace h := ite_t h c1
    refine j_iconst (v := (-1)) (D_Hall_landOf 11 rfl) rfl ?_
    exact j_iret (D_Hall_landOf 12 rfl) rfl (wr_lit rfl) rfl rfl (leafIo h (wr_n (wr_lit rfl)))
  · replace h := ite_f h c1
    refine j_aloadn (k := 0) (D_Hall_landOf 5 rfl) rfl rfl ?_
    refine j_getR rfl fa_Hall_19 kd_0 lc_0 (by decide) rfl fx_0_1 (by decide) (D_Hall_landOf 6 rfl) ?_
    refine j_iloadn (k := 1) (D_Hall_landOf 7 rfl) rfl rfl ?_
    refine j_iloadn (k := 2) (D_Hall_landOf 8 rfl) rfl rfl ?_
    obtain ⟨q2, e2, h⟩ := Option.bind_eq_some_iff.mp h
    refine j_cVi (c_Lands_told (ha1) (ha2) e2) rfl lk_Hall_157 mok_Lands_told kd_9 lc_9 rfl (by decide) rfl rfl (Nat.le_of_ble_eq_true rfl) (D_Hall_landOf 9 rfl) (fun w2 => ?_)
    refine j_goto (tgt := 24) (D_Hall_landOf 10 rfl) rfl ?_
    exact j_iret (D_Hall_landOf 12 rfl) rfl (w2) rfl rfl (leafIo h (wr_n (w2)))
abbrev M_Model_worthOf : MI := (⟨"InquestHallModel", "worthOf", "(I)I"⟩, prog_14_method_18_code, 4, (some .int))
theorem cw_Model_worthOf : Cond.code M_Model_worthOf.1 M_Model_worthOf.2.1 M_Model_worthOf.2.2.1 M_Model_worthOf.2.2.2 ∈ TS := mTS (List.mem_of_getElem? (i := 1625) (by decide +kernel)) (by decide +kernel)
def tb_Model_worthOf : List (Nat × Instr × Nat) := [(0, .iconst 0, 1), (1, .istore_n 2, 1), (2, .iconst 0, 1), (3, .istore_n 3, 1), (4, .iload_n 3, 1), (5, .bipush 6, 2), (7, .if_icmp .ge 23, 3), (10, .iload_n 2, 1), (11, .aload_n 0, 1), (12, .getfield 43, 3), (15, .bipush 6, 2), (17, .iload_n 1, 1), (18, .imul, 1), (19, .iload_n 3, 1), (20, .iadd, 1), (21, .iaload, 1), (22, .iadd, 1), (23, .istore_n 2, 1), (24, .iinc 3 1, 3), (27, .goto (-23), 3), (30, .iload_n 2, 1), (31, .ireturn, 1)]
theorem D_Model_worthOf (i : Nat) {pc len : Nat} {ins : Instr} (hi : tb_Model_worthOf[i]? = some (pc, ins, len)) : decode M_Model_worthOf.2.1 pc = .ok (ins, len) := dec_of (by decide +kernel) i hi
def f_Model_worthOf_L4 (G : GS) : Nat → Int → Int → Int → Option (Int)
  | 0, _, _, _ => none
  | n + 1, x1, x2, x3 =>
    if 6 ≤ x3 then
      some x2
    else
      gd (0 ≤ wr ((6 * x1) + x3) ∧ wr ((6 * x1) + x3) < 72) <|
      f_Model_worthOf_L4 G n x1 (wr (x2 + (gi G 93 (wr ((6 * x1) + x3)).toNat))) (wr (x3 + 1))
theorem s_Model_worthOf_L4 {X : XT} {G : GS} {r : Int} : ∀ (n : Nat) {x1 : Int} {x2 : Int} {x3 : Int}, wr x1 = x1 → wr x2 = x2 → wr x3 = x3 → f_Model_worthOf_L4 G n x1 x2 x3 = some r → J X true 6 0 0 M_Model_worthOf (Ri r G) NC 0 0 4 [(0, rf X 81), (1, vi x1), (2, vi x2), (3, vi x3)] [] G := by
  intro n
  induction n with
  | zero =>
    intro x1 x2 x3 hx1 hx2 hx3 h
    exact none_some h
  | succ n ih =>
    intro x1 x2 x3 hx1 hx2 hx3 h
    rw [f_Model_worthOf_L4] at h
    refine j_iloadn (k := 3) (D_Model_worthOf 4 rfl) rfl rfl ?_
    refine j_bipush (v := 6) (D_Model_worthOf 5 rfl) rfl ?_
    refine j_ic_ge (tgt := 30) (D_Model_worthOf 6 rfl) rfl (hx3) (wr_lit rfl) (fun c1 => ?_) (fun c1 => ?_)
    · replace h := ite_t h c1
      refine j_iloadn (k := 2) (D_Model_worthOf 20 rfl) rfl rfl ?_
      exact j_iret (D_Model_worthOf 21 rfl) rfl (hx2) rfl rfl (leafIo h (wr_n (hx2)))
    · replace h := ite_f h c1
      refine j_iloadn (k := 2) (D_Model_worthOf 7 rfl) rfl rfl ?_
      refine j_aloadn (k := 0) (D_Model_worthOf 8 rfl) rfl rfl ?_
      refine j_getR rfl fa_Model_43 kd_81 lc_81 (by decide) rfl fx_81_14 (by decide) (D_Model_worthOf 9 rfl) ?_
      refine j_bipush (v := 6) (D_Model_worthOf 10 rfl) rfl ?_
      refine j_iloadn (k := 1) (D_Model_worthOf 11 rfl) rfl rfl ?_
      refine j_imul (D_Model_worthOf 12 rfl) ?_
      refine j_iloadn (k := 3) (D_Model_worthOf 13 rfl) rfl rfl ?_
      refine j_iadd (D_Model_worthOf 14 rfl) ?_
      have g1 := gd_c h
      replace h := gd_s h
      refine j_iald (NI := 72) (D_Model_worthOf 15 rfl) kd_93 lc_93 (rfl) rfl g1.1 g1.2 ?_
      refine j_iadd (D_Model_worthOf 16 rfl) ?_
      refine j_istoren (L' := [(2, vi (wr (x2 + (gi G 93 (wr ((6 * x1) + x3)).toNat)))), (0, rf X 81), (1, vi x1), (3, vi x3)]) (D_Model_worthOf 17 rfl) rfl (rfl) (by decide) rfl ?_
      refine j_iinc (k := 3) (L' := [(3, vi (wr (x3 + 1))), (2, vi (wr (x2 + (gi G 93 (wr ((6 * x1) + x3)).toNat)))), (0, rf X 81), (1, vi x1)]) (D_Model_worthOf 18 rfl) rfl rfl (by decide) rfl ?_
      refine j_goto (tgt := 4) (D_Model_worthOf 19 rfl) rfl ?_
      refine j_loc [2, 3, 1, 0] rfl ?_
      exact ih (hx1) (wr_wr _) (wr_wr _) h
def f_Model_worthOf (G : GS) (a1 : Int) : Option (Int) :=
  f_Model_worthOf_L4 G FU a1 0 0
theorem c_Model_worthOf {X : XT} {G : GS} {a1 : Int} {r : Int} (ha1 : wr a1 = a1) (h : f_Model_worthOf G a1 = some r) : Call X true 6 0 0 M_Model_worthOf [rf X 81, vi a1] NC G (Ri r G) := by
  refine Call_of_J cw_Model_worthOf (by decide +kernel) (Nat.le_of_ble_eq_true rfl) ?_
  unfold f_Model_worthOf at h
  show J X true 6 0 0 M_Model_worthOf (Ri r G) NC 0 0 0 [(0, rf X 81), (1, vi a1)] [] G
  refine j_iconst (v := 0) (D_Model_worthOf 0 rfl) rfl ?_
  refine j_istoren (L' := [(2, vi 0), (0, rf X 81), (1, vi a1)]) (D_Model_worthOf 1 rfl) rfl (wr_lit rfl) (by decide) rfl ?_
  refine j_iconst (v := 0) (D_Model_worthOf 2 rfl) rfl ?_
  refine j_istoren (L' := [(3, vi 0), (2, vi 0), (0, rf X 81), (1, vi a1)]) (D_Model_worthOf 3 rfl) rfl (wr_lit rfl) (by decide) rfl ?_
  refine j_loc [2, 3, 1, 0] rfl ?_
  exact s_Model_worthOf_L4 FU (ha1) (wr_lit rfl) (wr_lit rfl) h
abbrev M_Model_landOf : MI := (⟨"InquestHallModel", "landOf", "(II)I"⟩, prog_14_method_19_code, 3, (some .int))
theorem cw_Model_landOf : Cond.code M_Model_landOf.1 M_Model_landOf.2.1 M_Model_landOf.2.2.1 M_Model_landOf.2.2.2 ∈ TS := mTS (List.mem_of_getElem? (i := 1621) (by decide +kernel)) (by decide +kernel)
theorem lk_Model_222 : Cond.methodLink "InquestHallModel" 222 M_Model_worthOf.1 ∈ TS := mTS (List.mem_of_getElem? (i := 1622) (by decide +kernel)) (by decide +kernel)
theorem mok_Model_worthOf : MOK M_Model_worthOf 1 := ⟨mTS (List.mem_of_getElem? (i := 1624) (by decide +kernel)) (by decide +kernel), mTS (List.mem_of_getElem? (i := 64) (by decide +kernel)) (by decide +kernel), mTS (List.mem_of_getElem? (i := 139) (by decide +kernel)) (by decide +kernel), cw_Model_worthOf, ⟨by decide, by decide, by decide +kernel⟩, by decide +kernel, by decide⟩
def tb_Model_landOf : List (Nat × Instr × Nat) := [(0, .aload_n 0, 1), (1, .iload_n 1, 1), (2, .invokevirtual 219, 3), (5, .ifCond .ne 5, 3), (8, .iconst (-1), 1), (9, .ireturn, 1), (10, .iload_n 2, 1), (11, .bipush 10, 2), (13, .bipush 15, 2), (15, .invokestatic 188, 3), (18, .ifCond .eq 18, 3), (21, .aload_n 0, 1), (22, .getfield 43, 3), (25, .bipush 6, 2), (27, .iload_n 1, 1), (28, .imul, 1), (29, .iload_n 2, 1), (30, .iadd, 1), (31, .bipush 10, 2), (33, .isub, 1), (34, .iaload, 1), (35, .ireturn, 1), (36, .iload_n 2, 1), (37, .bipush 20, 2), (39, .bipush 25, 2), (41, .invokestatic 188, 3), (44, .ifCond .eq 18, 3), (47, .aload_n 0, 1), (48, .getfield 46, 3), (51, .bipush 6, 2), (53, .iload_n 1, 1), (54, .imul, 1), (55, .iload_n 2, 1), (56, .iadd, 1), (57, .bipush 20, 2), (59, .isub, 1), (60, .iaload, 1), (61, .ireturn, 1), (62, .iload_n 2, 1), (63, .ifCond .ne 12, 3), (66, .aload_n 0, 1), (67, .getfield 34, 3), (70, .iload_n 1, 1), (71, .iaload, 1), (72, .goto 45, 3), (75, .iload_n 2, 1), (76, .iconst 1, 1), (77, .if_icmp .ne 12, 3), (80, .aload_n 0, 1), (81, .getfield 37, 3), (84, .iload_n 1, 1), (85, .iaload, 1), (86, .goto 31, 3), (89, .iload_n 2, 1), (90, .iconst 2, 1), (91, .if_icmp .ne 12, 3), (94, .aload_n 0, 1), (95, .getfield 40, 3), (98, .iload_n 1, 1), (99, .iaload, 1), (100, .goto 17, 3), (103, .iload_n 2, 1), (104, .iconst 3, 1), (105, .if_icmp .ne 11, 3), (108, .aload_n 0, 1), (109, .iload_n 1, 1), (110, .invokevirtual 222, 3), (113, .goto 4, 3), (116, .iconst (-1), 1), (117, .ireturn, 1)]
theorem D_Model_landOf (i : Nat) {pc len : Nat} {ins : Instr} (hi : tb_Model_landOf[i]? = some (pc, ins, len)) : decode M_Model_landOf.2.1 pc = .ok (ins, len) := dec_of (by decide +kernel) i hi
def f_Model_landOf (G : GS) (a1 : Int) (a2 : Int) : Option (Int) :=
  (f_Model_isLand G a1).bind fun q1 =>
  if q1 = 0 then
    some (-1)
  else
    (f_Model_isIn G a2 10 15).bind fun q2 =>
    if q2 = 0 then
      (f_Model_isIn G a2 20 25).bind fun q3 =>
      if q3 = 0 then
        if a2 = 0 then
          gd (0 ≤ a1 ∧ a1 < 12) <|
          some (gi G 90 a1.toNat)
        else
          if a2 = 1 then
            gd (0 ≤ a1 ∧ a1 < 12) <|
            some (gi G 91 a1.toNat)
          else
            if a2 = 2 then
              gd (0 ≤ a1 ∧ a1 < 12) <|
              some (gi G 92 a1.toNat)
            else
              if a2 = 3 then
                (f_Model_worthOf G a1).bind fun q4 =>
                some q4
              else
                some (-1)
      else
        gd (0 ≤ wr (((6 * a1) + a2) - 20) ∧ wr (((6 * a1) + a2) - 20) < 72) <|
        some (gi G 94 (wr (((6 * a1) + a2) - 20)).toNat)
    else
      gd (0 ≤ wr (((6 * a1) + a2) - 10) ∧ wr (((6 * a1) + a2) - 10) < 72) <|
      some (gi G 93 (wr (((6 * a1) + a2) - 10)).toNat)
theorem c_Model_landOf {X : XT} {G : GS} {a1 : Int} {a2 : Int} {r : Int} (ha1 : wr a1 = a1) (ha2 : wr a2 = a2) (h : f_Model_landOf G a1 a2 = some r) : Call X true 8 0 0 M_Model_landOf [rf X 81, vi a1, vi a2] NC G (Ri r G) := by
  refine Call_of_J cw_Model_landOf (by decide +kernel) (Nat.le_of_ble_eq_true rfl) ?_
  unfold f_Model_landOf at h
  show J X true 8 0 0 M_Model_landOf (Ri r G) NC 0 0 0 [(0, rf X 81), (1, vi a1), (2, vi a2)] [] G
  refine j_aloadn (k := 0) (D_Model_landOf 0 rfl) rfl rfl ?_
  refine j_iloadn (k := 1) (D_Model_landOf 1 rfl) rfl rfl ?_
  obtain ⟨q1, e1, h⟩ := Option.bind_eq_some_iff.mp h
  refine j_cVz (c_Model_isLand (ha1) e1) rfl lk_Model_219 mok_Model_isLand kd_81 lc_81 rfl (by decide) rfl rfl (Nat.le_of_ble_eq_true rfl) (D_Model_landOf 2 rfl) (fun w1 bw1 => ?_)
  refine j_if_ne (tgt := 10) (D_Model_landOf 3 rfl) rfl (w1) (fun c1 => ?_) (fun c1 => ?_)
  · replace h := ite_f h c1
    refine j_iloadn (k := 2) (D_Model_landOf 6 rfl) rfl rfl ?_
    refine j_bipush (v := 10) (D_Model_landOf 7 rfl) rfl ?_
    refine j_bipush (v := 15) (D_Model_landOf 8 rfl) rfl ?_
    obtain ⟨q2, e2, h⟩ := Option.bind_eq_some_iff.mp h
    refine j_cSz (c_Model_isIn (ha2) (wr_lit rfl) (wr_lit rfl) e2) rfl lk_Model_188 sok_Model_isIn (by decide) rfl rfl (Nat.le_of_ble_eq_true rfl) (D_Model_landOf 9 rfl) (fun w2 bw2 => ?_)
    refine j_if_eq (tgt := 36) (D_Model_landOf 10 rfl) rfl (w2) (fun c2 => ?_) (fun c2 => ?_)
    · replace h := ite_t h c2
      refine j_iloadn (k := 2) (D_Model_landOf 22 rfl) rfl rfl ?_
      refine j_bipush (v := 20) (D_Model_landOf 23 rfl) rfl ?_
      refine j_bipush (v := 25) (D_Model_landOf 24 rfl) rfl ?_
      obtain ⟨q3, e3, h⟩ := Option.bind_eq_some_iff.mp h
      refine j_cSz (c_Model_isIn (ha2) (wr_lit rfl) (wr_lit rfl) e3) rfl lk_Model_188 sok_Model_isIn (by decide) rfl rfl (Nat.le_of_ble_eq_true rfl) (D_Model_landOf 25 rfl) (fun w3 bw3 => ?_)
      refine j_if_eq (tgt := 62) (D_Model_landOf 26 rfl) rfl (w3) (fun c3 => ?_) (fun c3 => ?_)
      · replace h := ite_t h c3
        refine j_iloadn (k := 2) (D_Model_landOf 38 rfl) rfl rfl ?_
        refine j_if_ne (tgt := 75) (D_Model_landOf 39 rfl) rfl (ha2) (fun c4 => ?_) (fun c4 => ?_)
        · replace h := ite_f h c4
          refine j_iloadn (k := 2) (D_Model_landOf 45 rfl) rfl rfl ?_
          refine j_iconst (v := 1) (D_Model_landOf 46 rfl) rfl ?_
          refine j_ic_ne (tgt := 89) (D_Model_landOf 47 rfl) rfl (ha2) (wr_lit rfl) (fun c5 => ?_) (fun c5 => ?_)
          · replace h := ite_f h c5
            refine j_iloadn (k := 2) (D_Model_landOf 53 rfl) rfl rfl ?_
            refine j_iconst (v := 2) (D_Model_landOf 54 rfl) rfl ?_
            refine j_ic_ne (tgt := 103) (D_Model_landOf 55 rfl) rfl (ha2) (wr_lit rfl) (fun c6 => ?_) (fun c6 => ?_)
            · replace h := ite_f h c6
              refine j_iloadn (k := 2) (D_Model_landOf 61 rfl) rfl rfl ?_
              refine j_iconst (v := 3) (D_Model_landOf 62 rfl) rfl ?_
              refine j_ic_ne (tgt := 116) (D_Model_landOf 63 rfl) rfl (ha2) (wr_lit rfl) (fun c7 => ?_) (fun c7 => ?_)
              · replace h := ite_f h c7
                refine j_iconst (v := (-1)) (D_Model_landOf 68 rfl) rfl ?_
                exact j_iret (D_Model_landOf 69 rfl) rfl (wr_lit rfl) rfl rfl (leafIo h (wr_n (wr_lit rfl)))
              · replace h := ite_t h c7
                refine j_aloadn (k := 0) (D_Model_landOf 64 rfl) rfl rfl ?_
                refine j_iloadn (k := 1) (D_Model_landOf 65 rfl) rfl rfl ?_
                obtain ⟨q4, e4, h⟩ := Option.bind_eq_some_iff.mp h
                refine j_cVi (c_Model_worthOf (ha1) e4) rfl lk_Model_222 mok_Model_worthOf kd_81 lc_81 rfl (by decide) rfl rfl (Nat.le_of_ble_eq_true rfl) (D_Model_landOf 66 rfl) (fun w4 => ?_)
                refine j_goto (tgt := 117) (D_Model_landOf 67 rfl) rfl ?_
                exact j_iret (D_Model_landOf 69 rfl) rfl (w4) rfl rfl (leafIo h (wr_n (w4)))
            · replace h := ite_t h c6
              refine j_aloadn (k := 0) (D_Model_landOf 56 rfl) rfl rfl ?_
              refine j_getR rfl fa_Model_40 kd_81 lc_81 (by decide) rfl fx_81_13 (by decide) (D_Model_landOf 57 rfl) ?_
              refine j_iloadn (k := 1) (D_Model_landOf 58 rfl) rfl rfl ?_
              have g1 := gd_c h
              replace h := gd_s h
              refine j_iald (NI := 12) (D_Model_landOf 59 rfl) kd_92 lc_92 (ha1) rfl g1.1 g1.2 ?_
              refine j_goto (tgt := 117) (D_Model_landOf 60 rfl) rfl ?_
              exact j_iret (D_Model_landOf 69 rfl) rfl (wr_gi _ _ _) rfl rfl (leafIo h (wr_n (wr_gi _ _ _)))
          · replace h := ite_t h c5
            refine j_aloadn (k := 0) (D_Model_landOf 48 rfl) rfl rfl ?_
            refine j_getR rfl fa_Model_37 kd_81 lc_81 (by decide) rfl fx_81_12 (by decide) (D_Model_landOf 49 rfl) ?_
            refine j_iloadn (k := 1) (D_Model_landOf 50 rfl) rfl rfl ?_
            have g2 := gd_c h
            replace h := gd_s h
            refine j_iald (NI := 12) (D_Model_landOf 51 rfl) kd_91 lc_91 (ha1) rfl g2.1 g2.2 ?_
            refine j_goto (tgt := 117) (D_Model_landOf 52 rfl) rfl ?_
            exact j_iret (D_Model_landOf 69 rfl) rfl (wr_gi _ _ _) rfl rfl (leafIo h (wr_n (wr_gi _ _ _)))
        · replace h := ite_t h c4
          refine j_aloadn (k := 0) (D_Model_landOf 40 rfl) rfl rfl ?_
          refine j_getR rfl fa_Model_34 kd_81 lc_81 (by decide) rfl fx_81_11 (by decide) (D_Model_landOf 41 rfl) ?_
          refine j_iloadn (k := 1) (D_Model_landOf 42 rfl) rfl rfl ?_
          have g3 := gd_c h
          replace h := gd_s h
          refine j_iald (NI := 12) (D_Model_landOf 43 rfl) kd_90 lc_90 (ha1) rfl g3.1 g3.2 ?_
          refine j_goto (tgt := 117) (D_Model_landOf 44 rfl) rfl ?_
          exact j_iret (D_Model_landOf 69 rfl) rfl (wr_gi _ _ _) rfl rfl (leafIo h (wr_n (wr_gi _ _ _)))
      · replace h := ite_f h c3
        refine j_aloadn (k := 0) (D_Model_landOf 27 rfl) rfl rfl ?_
        refine j_getR rfl fa_Model_46 kd_81 lc_81 (by decide) rfl fx_81_15 (by decide) (D_Model_landOf 28 rfl) ?_
        refine j_bipush (v := 6) (D_Model_landOf 29 rfl) rfl ?_
        refine j_iloadn (k := 1) (D_Model_landOf 30 rfl) rfl rfl ?_
        refine j_imul (D_Model_landOf 31 rfl) ?_
        refine j_iloadn (k := 2) (D_Model_landOf 32 rfl) rfl rfl ?_
        refine j_iadd (D_Model_landOf 33 rfl) ?_
        refine j_bipush (v := 20) (D_Model_landOf 34 rfl) rfl ?_
        refine j_isub (D_Model_landOf 35 rfl) ?_
        have g4 := gd_c h
        replace h := gd_s h
        refine j_iald (NI := 72) (D_Model_landOf 36 rfl) kd_94 lc_94 (rfl) rfl g4.1 g4.2 ?_
        exact j_iret (D_Model_landOf 37 rfl) rfl (wr_gi _ _ _) rfl rfl (leafIo h (wr_n (wr_gi _ _ _)))
    · replace h := ite_f h c2
      refine j_aloadn (k := 0) (D_Model_landOf 11 rfl) rfl rfl ?_
      refine j_getR rfl fa_Model_43 kd_81 lc_81 (by decide) rfl fx_81_14 (by decide) (D_Model_landOf 12 rfl) ?_
      refine j_bipush (v := 6) (D_Model_landOf 13 rfl) rfl ?_
      refine j_iloadn (k := 1) (D_Model_landOf 14 rfl) rfl rfl ?_
      refine j_imul (D_Model_landOf 15 rfl) ?_
      refine j_iloadn (k := 2) (D_Model_landOf 16 rfl) rfl rfl ?_
      refine j_iadd (D_Model_landOf 17 rfl) ?_
      refine j_bipush (v := 10) (D_Model_landOf 18 rfl) rfl ?_
      refine j_isub (D_Model_landOf 19 rfl) ?_
      have g5 := gd_c h
      replace h := gd_s h
      refine j_iald (NI := 72) (D_Model_landOf 20 rfl) kd_93 lc_93 (rfl) rfl g5.1 g5.2 ?_
      exact j_iret (D_Model_landOf 21 rfl) rfl (wr_gi _ _ _) rfl rfl (leafIo h (wr_n (wr_gi _ _ _)))
  · replace h := ite_t h c1
    refine j_iconst (v := (-1)) (D_Model_landOf 4 rfl) rfl ?_
    exact j_iret (D_Model_landOf 5 rfl) rfl (wr_lit rfl) rfl rfl (leafIo h (wr_n (wr_lit rfl)))
abbrev M_Hall_reign : MI := (⟨"InquestHall", "reign", "(I)I"⟩, prog_1_method_11_code, 2, (some .int))
theorem cw_Hall_reign : Cond.code M_Hall_reign.1 M_Hall_reign.2.1 M_Hall_reign.2.2.1 M_Hall_reign.2.2.2 ∈ TS := mTS (List.mem_of_getElem? (i := 726) (by decide +kernel)) (by decide +kernel)
theorem fa_Hall_96 : FA "InquestHall" 96 0 12 false .int := ⟨_, _, _, _, ok_Hall, by decide, mTS (List.mem_of_getElem? (i := 604) (by decide +kernel)) (by decide +kernel), rfl, rfl⟩
theorem fa_Hall_92 : FA "InquestHall" 92 0 11 true (.array .int) := ⟨_, _, _, _, ok_Hall, by decide, mTS (List.mem_of_getElem? (i := 603) (by decide +kernel)) (by decide +kernel), rfl, rfl⟩
theorem fx_0_11 {G : GS} (w : WF true NC G) : G.2.2 0 11 = 74 := w.2 rfl (0, 11, 74) (by decide)
theorem kd_74 : kd 74 = (0, 4) := rfl
theorem lc_74 : 74 < NC := by decide
def tb_Hall_reign : List (Nat × Instr × Nat) := [(0, .aload_n 0, 1), (1, .getfield 96, 3), (4, .iconst 4, 1), (5, .if_icmp .ge 25, 3), (8, .iload_n 1, 1), (9, .aload_n 0, 1), (10, .getfield 92, 3), (13, .aload_n 0, 1), (14, .getfield 96, 3), (17, .iconst 1, 1), (18, .isub, 1), (19, .iaload, 1), (20, .if_icmp .le 10, 3), (23, .iload_n 1, 1), (24, .sipush 29999, 3), (27, .if_icmp .le 5, 3), (30, .iconst (-1), 1), (31, .ireturn, 1), (32, .aload_n 0, 1), (33, .getfield 92, 3), (36, .aload_n 0, 1), (37, .getfield 96, 3), (40, .iload_n 1, 1), (41, .iastore, 1), (42, .aload_n 0, 1), (43, .dup, 1), (44, .getfield 96, 3), (47, .iconst 1, 1), (48, .iadd, 1), (49, .putfield 96, 3), (52, .aload_n 0, 1), (53, .getfield 96, 3), (56, .iconst 1, 1), (57, .isub, 1), (58, .ireturn, 1)]
theorem D_Hall_reign (i : Nat) {pc len : Nat} {ins : Instr} (hi : tb_Hall_reign[i]? = some (pc, ins, len)) : decode M_Hall_reign.2.1 pc = .ok (ins, len) := dec_of (by decide +kernel) i hi
def f_Hall_reign (G : GS) (a1 : Int) : Option (Int × GS) :=
  if 4 ≤ gi G 0 12 then
    some ((-1), G)
  else
    gd (0 ≤ wr ((gi G 0 12) - 1) ∧ wr ((gi G 0 12) - 1) < 4) <|
    if a1 ≤ gi G 74 (wr ((gi G 0 12) - 1)).toNat then
      some ((-1), G)
    else
      if a1 ≤ 29999 then
        gd (0 ≤ gi G 0 12 ∧ gi G 0 12 < 4) <|
        wG (si G 74 (gi G 0 12).toNat a1) fun G1 =>
        wG (si G1 0 12 ((gi G1 0 12) + 1)) fun G2 =>
        some (wr ((gi G2 0 12) - 1), G2)
      else
        some ((-1), G)
theorem c_Hall_reign {X : XT} {G : GS} {a1 : Int} {r : Int × GS} (ha1 : wr a1 = a1) (h : f_Hall_reign G a1 = some r) : Call X true 6 0 0 M_Hall_reign [rf X 0, vi a1] NC G (Ri r.1 r.2) := by
  refine Call_of_J cw_Hall_reign (by decide +kernel) (Nat.le_of_ble_eq_true rfl) ?_
  unfold f_Hall_reign at h
  show J X true 6 0 0 M_Hall_reign (Ri r.1 r.2) NC 0 0 0 [(0, rf X 0), (1, vi a1)] [] G
  refine j_aloadn (k := 0) (D_Hall_reign 0 rfl) rfl rfl ?_
  refine j_getI rfl fa_Hall_96 kd_0 lc_0 (by decide) rfl (D_Hall_reign 1 rfl) ?_
  refine j_iconst (v := 4) (D_Hall_reign 2 rfl) rfl ?_
  refine j_ic_ge (tgt := 30) (D_Hall_reign 3 rfl) rfl (wr_gi _ _ _) (wr_lit rfl) (fun c1 => ?_) (fun c1 => ?_)
  · replace h := ite_t h c1
    refine j_iconst (v := (-1)) (D_Hall_reign 16 rfl) rfl ?_
    exact j_iret (D_Hall_reign 17 rfl) rfl (wr_lit rfl) rfl rfl (leafI h (wr_n (wr_lit rfl)))
  · replace h := ite_f h c1
    refine j_iloadn (k := 1) (D_Hall_reign 4 rfl) rfl rfl ?_
    refine j_aloadn (k := 0) (D_Hall_reign 5 rfl) rfl rfl ?_
    refine j_getR rfl fa_Hall_92 kd_0 lc_0 (by decide) rfl fx_0_11 (by decide) (D_Hall_reign 6 rfl) ?_
    refine j_aloadn (k := 0) (D_Hall_reign 7 rfl) rfl rfl ?_
    refine j_getI rfl fa_Hall_96 kd_0 lc_0 (by decide) rfl (D_Hall_reign 8 rfl) ?_
    refine j_iconst (v := 1) (D_Hall_reign 9 rfl) rfl ?_
    refine j_isub (D_Hall_reign 10 rfl) ?_
    have g1 := gd_c h
    replace h := gd_s h
    refine j_iald (NI := 4) (D_Hall_reign 11 rfl) kd_74 lc_74 (rfl) rfl g1.1 g1.2 ?_
    refine j_ic_le (tgt := 30) (D_Hall_reign 12 rfl) rfl (ha1) (wr_gi _ _ _) (fun c2 => ?_) (fun c2 => ?_)
    · replace h := ite_t h c2
      refine j_iconst (v := (-1)) (D_Hall_reign 16 rfl) rfl ?_
      exact j_iret (D_Hall_reign 17 rfl) rfl (wr_lit rfl) rfl rfl (leafI h (wr_n (wr_lit rfl)))
    · replace h := ite_f h c2
      refine j_iloadn (k := 1) (D_Hall_reign 13 rfl) rfl rfl ?_
      refine j_sipush (v := 29999) (D_Hall_reign 14 rfl) rfl ?_
      refine j_ic_le (tgt := 32) (D_Hall_reign 15 rfl) rfl (ha1) (wr_lit rfl) (fun c3 => ?_) (fun c3 => ?_)
      · replace h := ite_t h c3
        refine j_aloadn (k := 0) (D_Hall_reign 18 rfl) rfl rfl ?_
        refine j_getR rfl fa_Hall_92 kd_0 lc_0 (by decide) rfl fx_0_11 (by decide) (D_Hall_reign 19 rfl) ?_
        refine j_aloadn (k := 0) (D_Hall_reign 20 rfl) rfl rfl ?_
        refine j_getI rfl fa_Hall_96 kd_0 lc_0 (by decide) rfl (D_Hall_reign 21 rfl) ?_
        refine j_iloadn (k := 1) (D_Hall_reign 22 rfl) rfl rfl ?_
        have g2 := gd_c h
        replace h := gd_s h
        refine j_iast (NI := 4) (D_Hall_reign 23 rfl) kd_74 lc_74 (wr_gi _ _ _) rfl g2.1 g2.2 ?_
        refine j_gen (fun G1 e1 => ?_)
        replace h := wG_at h e1
        refine j_aloadn (k := 0) (D_Hall_reign 24 rfl) rfl rfl ?_
        refine j_dup (D_Hall_reign 25 rfl) rfl ?_
        refine j_getI rfl fa_Hall_96 kd_0 lc_0 (by decide) rfl (D_Hall_reign 26 rfl) ?_
        refine j_iconst (v := 1) (D_Hall_reign 27 rfl) rfl ?_
        refine j_iadd (D_Hall_reign 28 rfl) ?_
        refine j_putI rfl fa_Hall_96 kd_0 lc_0 (by decide) rfl (D_Hall_reign 29 rfl) ?_
        refine j_gen (fun G2 e2 => ?_)
        replace h := wG_at h e2
        refine j_aloadn (k := 0) (D_Hall_reign 30 rfl) rfl rfl ?_
        refine j_getI rfl fa_Hall_96 kd_0 lc_0 (by decide) rfl (D_Hall_reign 31 rfl) ?_
        refine j_iconst (v := 1) (D_Hall_reign 32 rfl) rfl ?_
        refine j_isub (D_Hall_reign 33 rfl) ?_
        exact j_iret (D_Hall_reign 34 rfl) rfl (rfl) rfl rfl (leafI h (wr_n (rfl)))
      · replace h := ite_f h c3
        refine j_iconst (v := (-1)) (D_Hall_reign 16 rfl) rfl ?_
        exact j_iret (D_Hall_reign 17 rfl) rfl (wr_lit rfl) rfl rfl (leafI h (wr_n (wr_lit rfl)))
abbrev M_Model_reign : MI := (⟨"InquestHallModel", "reign", "(I)I"⟩, prog_14_method_20_code, 2, (some .int))
theorem cw_Model_reign : Cond.code M_Model_reign.1 M_Model_reign.2.1 M_Model_reign.2.2.1 M_Model_reign.2.2.2 ∈ TS := mTS (List.mem_of_getElem? (i := 1629) (by decide +kernel)) (by decide +kernel)
theorem fa_Model_49 : FA "InquestHallModel" 49 12 17 true (.array .int) := ⟨_, _, _, _, ok_Model, by decide, mTS (List.mem_of_getElem? (i := 1318) (by decide +kernel)) (by decide +kernel), rfl, rfl⟩
theorem fx_81_17 {G : GS} (w : WF true NC G) : G.2.2 81 17 = 95 := w.2 rfl (81, 17, 95) (by decide)
theorem fa_Model_181 : FA "InquestHallModel" 181 12 16 false .int := ⟨_, _, _, _, ok_Model, by decide, mTS (List.mem_of_getElem? (i := 1317) (by decide +kernel)) (by decide +kernel), rfl, rfl⟩
theorem kd_95 : kd 95 = (0, 4) := rfl
theorem lc_95 : 95 < NC := by decide
def tb_Model_reign : List (Nat × Instr × Nat) := [(0, .iload_n 1, 1), (1, .invokestatic 202, 3), (4, .ifCond .eq 26, 3), (7, .iload_n 1, 1), (8, .aload_n 0, 1), (9, .getfield 49, 3), (12, .aload_n 0, 1), (13, .getfield 181, 3), (16, .iconst 1, 1), (17, .isub, 1), (18, .iaload, 1), (19, .if_icmp .le 11, 3), (22, .aload_n 0, 1), (23, .getfield 181, 3), (26, .iconst 4, 1), (27, .if_icmp .ne 5, 3), (30, .iconst (-1), 1), (31, .ireturn, 1), (32, .aload_n 0, 1), (33, .getfield 49, 3), (36, .aload_n 0, 1), (37, .getfield 181, 3), (40, .iload_n 1, 1), (41, .iastore, 1), (42, .aload_n 0, 1), (43, .dup, 1), (44, .getfield 181, 3), (47, .iconst 1, 1), (48, .iadd, 1), (49, .putfield 181, 3), (52, .aload_n 0, 1), (53, .getfield 181, 3), (56, .iconst 1, 1), (57, .isub, 1), (58, .ireturn, 1)]
theorem D_Model_reign (i : Nat) {pc len : Nat} {ins : Instr} (hi : tb_Model_reign[i]? = some (pc, ins, len)) : decode M_Model_reign.2.1 pc = .ok (ins, len) := dec_of (by decide +kernel) i hi
def f_Model_reign (G : GS) (a1 : Int) : Option (Int × GS) :=
  (f_Model_isDay G a1).bind fun q1 =>
  if q1 = 0 then
    some ((-1), G)
  else
    gd (0 ≤ wr ((gi G 81 16) - 1) ∧ wr ((gi G 81 16) - 1) < 4) <|
    if a1 ≤ gi G 95 (wr ((gi G 81 16) - 1)).toNat then
      some ((-1), G)
    else
      if gi G 81 16 = 4 then
        some ((-1), G)
      else
        gd (0 ≤ gi G 81 16 ∧ gi G 81 16 < 4) <|
        wG (si G 95 (gi G 81 16).toNat a1) fun G1 =>
        wG (si G1 81 16 ((gi G1 81 16) + 1)) fun G2 =>
        some (wr ((gi G2 81 16) - 1), G2)
theorem c_Model_reign {X : XT} {G : GS} {a1 : Int} {r : Int × GS} (ha1 : wr a1 = a1) (h : f_Model_reign G a1 = some r) : Call X true 8 0 0 M_Model_reign [rf X 81, vi a1] NC G (Ri r.1 r.2) := by
  refine Call_of_J cw_Model_reign (by decide +kernel) (Nat.le_of_ble_eq_true rfl) ?_
  unfold f_Model_reign at h
  show J X true 8 0 0 M_Model_reign (Ri r.1 r.2) NC 0 0 0 [(0, rf X 81), (1, vi a1)] [] G
  refine j_iloadn (k := 1) (D_Model_reign 0 rfl) rfl rfl ?_
  obtain ⟨q1, e1, h⟩ := Option.bind_eq_some_iff.mp h
  refine j_cSz (c_Model_isDay (ha1) e1) rfl lk_Model_202 sok_Model_isDay (by decide) rfl rfl (Nat.le_of_ble_eq_true rfl) (D_Model_reign 1 rfl) (fun w1 bw1 => ?_)
  refine j_if_eq (tgt := 30) (D_Model_reign 2 rfl) rfl (w1) (fun c1 => ?_) (fun c1 => ?_)
  · replace h := ite_t h c1
    refine j_iconst (v := (-1)) (D_Model_reign 16 rfl) rfl ?_
    exact j_iret (D_Model_reign 17 rfl) rfl (wr_lit rfl) rfl rfl (leafI h (wr_n (wr_lit rfl)))
  · replace h := ite_f h c1
    refine j_iloadn (k := 1) (D_Model_reign 3 rfl) rfl rfl ?_
    refine j_aloadn (k := 0) (D_Model_reign 4 rfl) rfl rfl ?_
    refine j_getR rfl fa_Model_49 kd_81 lc_81 (by decide) rfl fx_81_17 (by decide) (D_Model_reign 5 rfl) ?_
    refine j_aloadn (k := 0) (D_Model_reign 6 rfl) rfl rfl ?_
    refine j_getI rfl fa_Model_181 kd_81 lc_81 (by decide) rfl (D_Model_reign 7 rfl) ?_
    refine j_iconst (v := 1) (D_Model_reign 8 rfl) rfl ?_
    refine j_isub (D_Model_reign 9 rfl) ?_
    have g1 := gd_c h
    replace h := gd_s h
    refine j_iald (NI := 4) (D_Model_reign 10 rfl) kd_95 lc_95 (rfl) rfl g1.1 g1.2 ?_
    refine j_ic_le (tgt := 30) (D_Model_reign 11 rfl) rfl (ha1) (wr_gi _ _ _) (fun c2 => ?_) (fun c2 => ?_)
    · replace h := ite_t h c2
      refine j_iconst (v := (-1)) (D_Model_reign 16 rfl) rfl ?_
      exact j_iret (D_Model_reign 17 rfl) rfl (wr_lit rfl) rfl rfl (leafI h (wr_n (wr_lit rfl)))
    · replace h := ite_f h c2
      refine j_aloadn (k := 0) (D_Model_reign 12 rfl) rfl rfl ?_
      refine j_getI rfl fa_Model_181 kd_81 lc_81 (by decide) rfl (D_Model_reign 13 rfl) ?_
      refine j_iconst (v := 4) (D_Model_reign 14 rfl) rfl ?_
      refine j_ic_ne (tgt := 32) (D_Model_reign 15 rfl) rfl (wr_gi _ _ _) (wr_lit rfl) (fun c3 => ?_) (fun c3 => ?_)
      · replace h := ite_f h c3
        refine j_aloadn (k := 0) (D_Model_reign 18 rfl) rfl rfl ?_
        refine j_getR rfl fa_Model_49 kd_81 lc_81 (by decide) rfl fx_81_17 (by decide) (D_Model_reign 19 rfl) ?_
        refine j_aloadn (k := 0) (D_Model_reign 20 rfl) rfl rfl ?_
        refine j_getI rfl fa_Model_181 kd_81 lc_81 (by decide) rfl (D_Model_reign 21 rfl) ?_
        refine j_iloadn (k := 1) (D_Model_reign 22 rfl) rfl rfl ?_
        have g2 := gd_c h
        replace h := gd_s h
        refine j_iast (NI := 4) (D_Model_reign 23 rfl) kd_95 lc_95 (wr_gi _ _ _) rfl g2.1 g2.2 ?_
        refine j_gen (fun G1 e2 => ?_)
        replace h := wG_at h e2
        refine j_aloadn (k := 0) (D_Model_reign 24 rfl) rfl rfl ?_
        refine j_dup (D_Model_reign 25 rfl) rfl ?_
        refine j_getI rfl fa_Model_181 kd_81 lc_81 (by decide) rfl (D_Model_reign 26 rfl) ?_
        refine j_iconst (v := 1) (D_Model_reign 27 rfl) rfl ?_
        refine j_iadd (D_Model_reign 28 rfl) ?_
        refine j_putI rfl fa_Model_181 kd_81 lc_81 (by decide) rfl (D_Model_reign 29 rfl) ?_
        refine j_gen (fun G2 e3 => ?_)
        replace h := wG_at h e3
        refine j_aloadn (k := 0) (D_Model_reign 30 rfl) rfl rfl ?_
        refine j_getI rfl fa_Model_181 kd_81 lc_81 (by decide) rfl (D_Model_reign 31 rfl) ?_
        refine j_iconst (v := 1) (D_Model_reign 32 rfl) rfl ?_
        refine j_isub (D_Model_reign 33 rfl) ?_
        exact j_iret (D_Model_reign 34 rfl) rfl (rfl) rfl rfl (leafI h (wr_n (rfl)))
      · replace h := ite_t h c3
        refine j_iconst (v := (-1)) (D_Model_reign 16 rfl) rfl ?_
        exact j_iret (D_Model_reign 17 rfl) rfl (wr_lit rfl) rfl rfl (leafI h (wr_n (wr_lit rfl)))
abbrev M_Text_put : MI := (⟨"InquestHall$Text", "put", "(I)V"⟩, prog_12_method_2_code, 3, none)
theorem cw_Text_put : Cond.code M_Text_put.1 M_Text_put.2.1 M_Text_put.2.2.1 M_Text_put.2.2.2 ∈ TS := mTS (List.mem_of_getElem? (i := 734) (by decide +kernel)) (by decide +kernel)
theorem fa_Text_44 : FA "InquestHall$Text" 44 3 1 false .int := ⟨_, _, _, _, ok_Text, by decide, mTS (List.mem_of_getElem? (i := 293) (by decide +kernel)) (by decide +kernel), rfl, rfl⟩
theorem kd_15 : kd 15 = (3 + 5, 10) := rfl
theorem lc_15 : 15 < NC := by decide
theorem fa_Text_11 : FA "InquestHall$Text" 11 3 0 true (.array .byte) := ⟨_, _, _, _, ok_Text, by decide, mTS (List.mem_of_getElem? (i := 292) (by decide +kernel)) (by decide +kernel), rfl, rfl⟩
theorem fx_15_0 {G : GS} (w : WF true NC G) : G.2.2 15 0 = 16 := w.2 rfl (15, 0, 16) (by decide)
theorem kd_16 : kd 16 = (2, 800) := rfl
theorem lc_16 : 16 < NC := by decide
def tb_Text_put : List (Nat × Instr × Nat) := [(0, .bipush 24, 2), (2, .istore_n 2, 1), (3, .iload_n 2, 1), (4, .ifCond .lt 42, 3), (7, .aload_n 0, 1), (8, .getfield 44, 3), (11, .sipush 800, 3), (14, .if_icmp .ge 32, 3), (17, .aload_n 0, 1), (18, .getfield 11, 3), (21, .aload_n 0, 1), (22, .getfield 44, 3), (25, .iload_n 1, 1), (26, .iload_n 2, 1), (27, .ishr, 1), (28, .i2b, 1), (29, .bastore, 1), (30, .aload_n 0, 1), (31, .dup, 1), (32, .getfield 44, 3), (35, .iconst 1, 1), (36, .iadd, 1), (37, .putfield 44, 3), (40, .iinc 2 (-8), 3), (43, .goto (-40), 3), (46, .return_, 1)]
theorem D_Text_put (i : Nat) {pc len : Nat} {ins : Instr} (hi : tb_Text_put[i]? = some (pc, ins, len)) : decode M_Text_put.2.1 pc = .ok (ins, len) := dec_of (by decide +kernel) i hi
def f_Text_put_L3 : Nat → GS → Int → Int → Option (GS)
  | 0, _, _, _ => none
  | n + 1, G, x1, x2 =>
    if x2 < 0 then
      some G
    else
      if 800 ≤ gi G 15 1 then
        some G
      else
        gd (0 ≤ gi G 15 1 ∧ gi G 15 1 < 800) <|
        wG (si G 16 (gi G 15 1).toNat (w8 (bShr x1 x2))) fun G1 =>
        wG (si G1 15 1 ((gi G1 15 1) + 1)) fun G2 =>
        f_Text_put_L3 n G2 x1 (wr (x2 + (-8)))
theorem s_Text_put_L3 {X : XT} {r : GS} : ∀ (n : Nat) {G : GS} {x1 : Int} {x2 : Int}, wr x1 = x1 → wr x2 = x2 → f_Text_put_L3 n G x1 x2 = some r → J X true 6 0 0 M_Text_put (Rv r) NC 0 0 3 [(0, rf X 15), (1, vi x1), (2, vi x2)] [] G := by
  intro n
  induction n with
  | zero =>
    intro G x1 x2 hx1 hx2 h
    exact none_some h
  | succ n ih =>
    intro G x1 x2 hx1 hx2 h
    rw [f_Text_put_L3] at h
    refine j_iloadn (k := 2) (D_Text_put 2 rfl) rfl rfl ?_
    refine j_if_lt (tgt := 46) (D_Text_put 3 rfl) rfl (hx2) (fun c1 => ?_) (fun c1 => ?_)
    · replace h := ite_t h c1
      exact j_vret (D_Text_put 25 rfl) rfl rfl rfl (leafV h)
    · replace h := ite_f h c1
      refine j_aloadn (k := 0) (D_Text_put 4 rfl) rfl rfl ?_
      refine j_getI rfl fa_Text_44 kd_15 lc_15 (by decide) rfl (D_Text_put 5 rfl) ?_
      refine j_sipush (v := 800) (D_Text_put 6 rfl) rfl ?_
      refine j_ic_ge (tgt := 46) (D_Text_put 7 rfl) rfl (wr_gi _ _ _) (wr_lit rfl) (fun c2 => ?_) (fun c2 => ?_)
      · replace h := ite_t h c2
        exact j_vret (D_Text_put 25 rfl) rfl rfl rfl (leafV h)
      · replace h := ite_f h c2
        refine j_aloadn (k := 0) (D_Text_put 8 rfl) rfl rfl ?_
        refine j_getR rfl fa_Text_11 kd_15 lc_15 (by decide) rfl fx_15_0 (by decide) (D_Text_put 9 rfl) ?_
        refine j_aloadn (k := 0) (D_Text_put 10 rfl) rfl rfl ?_
        refine j_getI rfl fa_Text_44 kd_15 lc_15 (by decide) rfl (D_Text_put 11 rfl) ?_
        refine j_iloadn (k := 1) (D_Text_put 12 rfl) rfl rfl ?_
        refine j_iloadn (k := 2) (D_Text_put 13 rfl) rfl rfl ?_
        refine j_ishr (D_Text_put 14 rfl) ?_
        refine j_i2b (D_Text_put 15 rfl) ?_
        have g1 := gd_c h
        replace h := gd_s h
        refine j_bast (NI := 800) (D_Text_put 16 rfl) kd_16 lc_16 (wr_gi _ _ _) rfl g1.1 g1.2 (nar_b _) ?_
        refine j_gen (fun G1 e1 => ?_)
        replace h := wG_at h e1
        refine j_aloadn (k := 0) (D_Text_put 17 rfl) rfl rfl ?_
        refine j_dup (D_Text_put 18 rfl) rfl ?_
        refine j_getI rfl fa_Text_44 kd_15 lc_15 (by decide) rfl (D_Text_put 19 rfl) ?_
        refine j_iconst (v := 1) (D_Text_put 20 rfl) rfl ?_
        refine j_iadd (D_Text_put 21 rfl) ?_
        refine j_putI rfl fa_Text_44 kd_15 lc_15 (by decide) rfl (D_Text_put 22 rfl) ?_
        refine j_gen (fun G2 e2 => ?_)
        replace h := wG_at h e2
        refine j_iinc (k := 2) (L' := [(2, vi (wr (x2 + (-8)))), (0, rf X 15), (1, vi x1)]) (D_Text_put 23 rfl) rfl rfl (by decide) rfl ?_
        refine j_goto (tgt := 3) (D_Text_put 24 rfl) rfl ?_
        refine j_loc [1, 2, 0] rfl ?_
        exact ih (hx1) (wr_wr _) h
def f_Text_put (G : GS) (a1 : Int) : Option (GS) :=
  f_Text_put_L3 FU G a1 24
theorem c_Text_put {X : XT} {G : GS} {a1 : Int} {r : GS} (ha1 : wr a1 = a1) (h : f_Text_put G a1 = some r) : Call X true 6 0 0 M_Text_put [rf X 15, vi a1] NC G (Rv r) := by
  refine Call_of_J cw_Text_put (by decide +kernel) (Nat.le_of_ble_eq_true rfl) ?_
  unfold f_Text_put at h
  show J X true 6 0 0 M_Text_put (Rv r) NC 0 0 0 [(0, rf X 15), (1, vi a1)] [] G
  refine j_bipush (v := 24) (D_Text_put 0 rfl) rfl ?_
  refine j_istoren (L' := [(2, vi 24), (0, rf X 15), (1, vi a1)]) (D_Text_put 1 rfl) rfl (wr_lit rfl) (by decide) rfl ?_
  refine j_loc [1, 2, 0] rfl ?_
  exact s_Text_put_L3 FU (ha1) (wr_lit rfl) h
