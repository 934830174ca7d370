/-! printed by wip/whole/ctor.py -/
abbrev M_Model_init : MI := (⟨"InquestHallModel", "<init>", "()V"⟩, prog_14_method_1_code, 2, none)
theorem cw_Model_init : Cond.code M_Model_init.1 M_Model_init.2.1 M_Model_init.2.2.1 M_Model_init.2.2.2 ∈ TS := mTS (List.mem_of_getElem? (i := 1295) (by decide +kernel)) (by decide +kernel)
theorem lo_Model_1 : Cond.methodLink "InquestHallModel" 1 Lib.objectInit ∈ TS := mTS (List.mem_of_getElem? (i := 1296) (by decide +kernel)) (by decide +kernel)
theorem ho_Model : ∀ (C : String) (T : u_T) (N : Nat) (ty : Nat → FieldType), ClsOK 12 C T N ty → C = "InquestHallModel" := fun C T N ty h => by have h1 := h.1; cases h1; rfl
theorem aw_Z : Cond.arrayClass .boolean ∈ TS := mTS (List.mem_of_getElem? (i := 1563) (by decide +kernel)) (by decide +kernel)
def gk_63 : GS := (si (sp (sp (sp (sp (sp (sp (sp (sp (sp (sp (sp (sp (sp (sp (sp (sp (sp (sp (si (sp (sp (sp (sp (sp (sp (sp (sp (sp (sp (sp (sp (sp (sp (sp (sp (sp (sp (sp (sp (sp (sp (sp (sp (sp (sp (sp (sp (sp (sp (sp (sp (sp (sp (sp (sp (sp gk_61 81 2 82) 81 3 83) 81 4 84) 81 5 85) 81 6 86) 81 7 87) 81 8 88) 81 9 89) 81 11 90) 81 12 91) 81 13 92) 81 14 93) 81 15 94) 81 17 95) 81 18 96) 81 19 97) 81 20 98) 81 21 99) 81 22 100) 81 23 101) 81 24 102) 81 25 103) 81 26 104) 81 27 105) 81 28 106) 81 29 107) 81 30 108) 81 31 109) 81 32 110) 81 33 111) 81 34 112) 81 35 113) 81 36 114) 81 37 115) 81 38 116) 81 39 117) 81 40 118) 81 52 (-1)) 81 58 119) 81 59 120) 81 60 121) 81 63 122) 81 67 123) 81 68 124) 81 69 125) 81 70 126) 81 71 127) 81 72 128) 81 73 129) 81 74 130) 81 75 131) 81 76 132) 81 77 133) 81 78 134) 81 83 135) 81 84 136) 81 16 1)
def gk_64 : GS := (f_Model_clears gk_63 0).getD (fun _ _ => 0, fun _ _ => 0, fun _ _ => 0)
theorem fxk_gk_63 : FX gk_63 := by unfold FX; decide +kernel
theorem sk_gk_64 : f_Model_clears gk_63 0 = some gk_64 := by
  have h : (f_Model_clears gk_63 0).isSome = true := by decide +kernel
  unfold gk_64
  cases e : f_Model_clears gk_63 0 with
  | none => rw [e] at h; cases h
  | some y => rfl
def gk_65 : GS := gk_64
def gk_66 : GS := (f_Model_clears gk_65 1).getD (fun _ _ => 0, fun _ _ => 0, fun _ _ => 0)
theorem fxk_gk_65 : FX gk_65 := by unfold FX; decide +kernel
theorem sk_gk_66 : f_Model_clears gk_65 1 = some gk_66 := by
  have h : (f_Model_clears gk_65 1).isSome = true := by decide +kernel
  unfold gk_66
  cases e : f_Model_clears gk_65 1 with
  | none => rw [e] at h; cases h
  | some y => rfl
def gk_67 : GS := gk_66
def gk_68 : GS := (f_Model_clears gk_67 2).getD (fun _ _ => 0, fun _ _ => 0, fun _ _ => 0)
theorem fxk_gk_67 : FX gk_67 := by unfold FX; decide +kernel
theorem sk_gk_68 : f_Model_clears gk_67 2 = some gk_68 := by
  have h : (f_Model_clears gk_67 2).isSome = true := by decide +kernel
  unfold gk_68
  cases e : f_Model_clears gk_67 2 with
  | none => rw [e] at h; cases h
  | some y => rfl
def gk_69 : GS := gk_68
def gk_70 : GS := (f_Model_clears gk_69 3).getD (fun _ _ => 0, fun _ _ => 0, fun _ _ => 0)
theorem fxk_gk_69 : FX gk_69 := by unfold FX; decide +kernel
theorem sk_gk_70 : f_Model_clears gk_69 3 = some gk_70 := by
  have h : (f_Model_clears gk_69 3).isSome = true := by decide +kernel
  unfold gk_70
  cases e : f_Model_clears gk_69 3 with
  | none => rw [e] at h; cases h
  | some y => rfl
def gk_71 : GS := (si (si (si (si (si (si (si (si (si (si (si (si (si (si (si (si (si (si (si (si (si (si (si (si (si (si (si (si (si (si (si (si (si (si (si (si (si (si (si (si (si (si (si (si (si (si (si (si (si (si (si (si (si (si (si (si (si (si (si (si (si (si (si (si (si (si (si (si (si (si (si (si (si (si (si (si (si (si (si (si (si (si (si (si (si (si (si (si (si (si (si (si (si (si (si (si (si (si (si (si (si (si (si (si (si (si (si (si (si (si (si (si (si (si (si (si (si (si (si (si (si (si (si (si (si (si (si (si (si (si (si (si (si (si (si (si gk_70 130 (0 : Int).toNat (-1)) 130 (1 : Int).toNat (-1)) 130 (2 : Int).toNat (-1)) 130 (3 : Int).toNat (-1)) 130 (4 : Int).toNat (-1)) 130 (5 : Int).toNat (-1)) 130 (6 : Int).toNat (-1)) 130 (7 : Int).toNat (-1)) 130 (8 : Int).toNat (-1)) 130 (9 : Int).toNat (-1)) 130 (10 : Int).toNat (-1)) 130 (11 : Int).toNat (-1)) 130 (12 : Int).toNat (-1)) 130 (13 : Int).toNat (-1)) 130 (14 : Int).toNat (-1)) 130 (15 : Int).toNat (-1)) 135 (0 : Int).toNat (-2)) 135 (1 : Int).toNat (-2)) 135 (2 : Int).toNat (-2)) 135 (3 : Int).toNat (-2)) 135 (4 : Int).toNat (-2)) 135 (5 : Int).toNat (-2)) 135 (6 : Int).toNat (-2)) 135 (7 : Int).toNat (-2)) 135 (8 : Int).toNat (-2)) 135 (9 : Int).toNat (-2)) 135 (10 : Int).toNat (-2)) 135 (11 : Int).toNat (-2)) 135 (12 : Int).toNat (-2)) 135 (13 : Int).toNat (-2)) 135 (14 : Int).toNat (-2)) 135 (15 : Int).toNat (-2)) 135 (16 : Int).toNat (-2)) 135 (17 : Int).toNat (-2)) 135 (18 : Int).toNat (-2)) 135 (19 : Int).toNat (-2)) 135 (20 : Int).toNat (-2)) 135 (21 : Int).toNat (-2)) 135 (22 : Int).toNat (-2)) 135 (23 : Int).toNat (-2)) 135 (24 : Int).toNat (-2)) 135 (25 : Int).toNat (-2)) 135 (26 : Int).toNat (-2)) 135 (27 : Int).toNat (-2)) 135 (28 : Int).toNat (-2)) 135 (29 : Int).toNat (-2)) 135 (30 : Int).toNat (-2)) 135 (31 : Int).toNat (-2)) 135 (32 : Int).toNat (-2)) 135 (33 : Int).toNat (-2)) 135 (34 : Int).toNat (-2)) 135 (35 : Int).toNat (-2)) 135 (36 : Int).toNat (-2)) 135 (37 : Int).toNat (-2)) 135 (38 : Int).toNat (-2)) 135 (39 : Int).toNat (-2)) 135 (40 : Int).toNat (-2)) 135 (41 : Int).toNat (-2)) 135 (42 : Int).toNat (-2)) 135 (43 : Int).toNat (-2)) 135 (44 : Int).toNat (-2)) 135 (45 : Int).toNat (-2)) 135 (46 : Int).toNat (-2)) 135 (47 : Int).toNat (-2)) 135 (48 : Int).toNat (-2)) 135 (49 : Int).toNat (-2)) 135 (50 : Int).toNat (-2)) 135 (51 : Int).toNat (-2)) 135 (52 : Int).toNat (-2)) 135 (53 : Int).toNat (-2)) 135 (54 : Int).toNat (-2)) 135 (55 : Int).toNat (-2)) 135 (56 : Int).toNat (-2)) 135 (57 : Int).toNat (-2)) 135 (58 : Int).toNat (-2)) 135 (59 : Int).toNat (-2)) 135 (60 : Int).toNat (-2)) 135 (61 : Int).toNat (-2)) 135 (62 : Int).toNat (-2)) 135 (63 : Int).toNat (-2)) 135 (64 : Int).toNat (-2)) 135 (65 : Int).toNat (-2)) 135 (66 : Int).toNat (-2)) 135 (67 : Int).toNat (-2)) 135 (68 : Int).toNat (-2)) 135 (69 : Int).toNat (-2)) 135 (70 : Int).toNat (-2)) 135 (71 : Int).toNat (-2)) 135 (72 : Int).toNat (-2)) 135 (73 : Int).toNat (-2)) 135 (74 : Int).toNat (-2)) 135 (75 : Int).toNat (-2)) 135 (76 : Int).toNat (-2)) 135 (77 : Int).toNat (-2)) 135 (78 : Int).toNat (-2)) 135 (79 : Int).toNat (-2)) 135 (80 : Int).toNat (-2)) 135 (81 : Int).toNat (-2)) 135 (82 : Int).toNat (-2)) 135 (83 : Int).toNat (-2)) 135 (84 : Int).toNat (-2)) 135 (85 : Int).toNat (-2)) 135 (86 : Int).toNat (-2)) 135 (87 : Int).toNat (-2)) 135 (88 : Int).toNat (-2)) 135 (89 : Int).toNat (-2)) 135 (90 : Int).toNat (-2)) 135 (91 : Int).toNat (-2)) 135 (92 : Int).toNat (-2)) 135 (93 : Int).toNat (-2)) 135 (94 : Int).toNat (-2)) 135 (95 : Int).toNat (-2)) 135 (96 : Int).toNat (-2)) 135 (97 : Int).toNat (-2)) 135 (98 : Int).toNat (-2)) 135 (99 : Int).toNat (-2)) 135 (100 : Int).toNat (-2)) 135 (101 : Int).toNat (-2)) 135 (102 : Int).toNat (-2)) 135 (103 : Int).toNat (-2)) 135 (104 : Int).toNat (-2)) 135 (105 : Int).toNat (-2)) 135 (106 : Int).toNat (-2)) 135 (107 : Int).toNat (-2)) 135 (108 : Int).toNat (-2)) 135 (109 : Int).toNat (-2)) 135 (110 : Int).toNat (-2)) 135 (111 : Int).toNat (-2)) 135 (112 : Int).toNat (-2)) 135 (113 : Int).toNat (-2)) 135 (114 : Int).toNat (-2)) 135 (115 : Int).toNat (-2)) 135 (116 : Int).toNat (-2)) 135 (117 : Int).toNat (-2)) 135 (118 : Int).toNat (-2)) 135 (119 : Int).toNat (-2))
def tb_Model_init : List (Nat × Instr × Nat) := [(0, .aload_n 0, 1), (1, .invokespecial 1, 3), (4, .aload_n 0, 1), (5, .bipush 32, 2), (7, .newarray .int, 2), (9, .putfield 7, 3), (12, .aload_n 0, 1), (13, .bipush 32, 2), (15, .newarray .int, 2), (17, .putfield 13, 3), (20, .aload_n 0, 1), (21, .bipush 32, 2), (23, .newarray .int, 2), (25, .putfield 16, 3), (28, .aload_n 0, 1), (29, .bipush 32, 2), (31, .newarray .int, 2), (33, .putfield 19, 3), (36, .aload_n 0, 1), (37, .bipush 32, 2), (39, .newarray .int, 2), (41, .putfield 22, 3), (44, .aload_n 0, 1), (45, .bipush 32, 2), (47, .newarray .int, 2), (49, .putfield 25, 3), (52, .aload_n 0, 1), (53, .bipush 32, 2), (55, .newarray .int, 2), (57, .putfield 28, 3), (60, .aload_n 0, 1), (61, .bipush 32, 2), (63, .newarray .int, 2), (65, .putfield 31, 3), (68, .aload_n 0, 1), (69, .bipush 12, 2), (71, .newarray .int, 2), (73, .putfield 34, 3), (76, .aload_n 0, 1), (77, .bipush 12, 2), (79, .newarray .int, 2), (81, .putfield 37, 3), (84, .aload_n 0, 1), (85, .bipush 12, 2), (87, .newarray .int, 2), (89, .putfield 40, 3), (92, .aload_n 0, 1), (93, .bipush 72, 2), (95, .newarray .int, 2), (97, .putfield 43, 3), (100, .aload_n 0, 1), (101, .bipush 72, 2), (103, .newarray .int, 2), (105, .putfield 46, 3), (108, .aload_n 0, 1), (109, .iconst 4, 1), (110, .newarray .int, 2), (112, .putfield 49, 3), (115, .aload_n 0, 1), (116, .iconst 4, 1), (117, .newarray .int, 2), (119, .putfield 52, 3), (122, .aload_n 0, 1), (123, .iconst 4, 1), (124, .newarray .int, 2), (126, .putfield 55, 3), (129, .aload_n 0, 1), (130, .iconst 4, 1), (131, .newarray .int, 2), (133, .putfield 58, 3), (136, .aload_n 0, 1), (137, .iconst 4, 1), (138, .newarray .int, 2), (140, .putfield 61, 3), (143, .aload_n 0, 1), (144, .bipush 16, 2), (146, .newarray .int, 2), (148, .putfield 64, 3), (151, .aload_n 0, 1), (152, .bipush 12, 2), (154, .newarray .int, 2), (156, .putfield 67, 3), (159, .aload_n 0, 1), (160, .bipush 12, 2), (162, .newarray .int, 2), (164, .putfield 70, 3), (167, .aload_n 0, 1), (168, .bipush 12, 2), (170, .newarray .int, 2), (172, .putfield 73, 3), (175, .aload_n 0, 1), (176, .iconst 4, 1), (177, .newarray .int, 2), (179, .putfield 76, 3), (182, .aload_n 0, 1), (183, .bipush 120, 2), (185, .newarray .int, 2), (187, .putfield 79, 3), (190, .aload_n 0, 1), (191, .bipush 124, 2), (193, .newarray .int, 2), (195, .putfield 82, 3), (198, .aload_n 0, 1), (199, .bipush 120, 2), (201, .newarray .int, 2), (203, .putfield 85, 3), (206, .aload_n 0, 1), (207, .sipush 6480, 3), (210, .newarray .int, 2), (212, .putfield 88, 3), (215, .aload_n 0, 1), (216, .bipush 30, 2), (218, .newarray .int, 2), (220, .putfield 91, 3), (223, .aload_n 0, 1), (224, .bipush 30, 2), (226, .newarray .int, 2), (228, .putfield 94, 3), (231, .aload_n 0, 1), (232, .bipush 30, 2), (234, .newarray .int, 2), (236, .putfield 97, 3), (239, .aload_n 0, 1), (240, .bipush 30, 2), (242, .newarray .int, 2), (244, .putfield 100, 3), (247, .aload_n 0, 1), (248, .bipush 30, 2), (250, .newarray .int, 2), (252, .putfield 103, 3), (255, .aload_n 0, 1), (256, .bipush 31, 2), (258, .newarray .int, 2), (260, .putfield 106, 3), (263, .aload_n 0, 1), (264, .bipush 30, 2), (266, .newarray .int, 2), (268, .putfield 109, 3), (271, .aload_n 0, 1), (272, .sipush 1620, 3), (275, .newarray .int, 2), (277, .putfield 112, 3), (280, .aload_n 0, 1), (281, .sipush 800, 3), (284, .newarray .int, 2), (286, .putfield 115, 3), (289, .aload_n 0, 1), (290, .sipush 820, 3), (293, .newarray .int, 2), (295, .putfield 118, 3), (298, .aload_n 0, 1), (299, .iconst (-1), 1), (300, .putfield 121, 3), (303, .aload_n 0, 1), (304, .bipush 32, 2), (306, .newarray .boolean, 2), (308, .putfield 125, 3), (311, .aload_n 0, 1), (312, .bipush 32, 2), (314, .newarray .long, 2), (316, .putfield 129, 3), (319, .aload_n 0, 1), (320, .bipush 32, 2), (322, .newarray .long, 2), (324, .putfield 133, 3), (327, .aload_n 0, 1), (328, .bipush 8, 2), (330, .newarray .int, 2), (332, .putfield 136, 3), (335, .aload_n 0, 1), (336, .bipush 100, 2), (338, .newarray .int, 2), (340, .putfield 139, 3), (343, .aload_n 0, 1), (344, .bipush 100, 2), (346, .newarray .int, 2), (348, .putfield 142, 3), (351, .aload_n 0, 1), (352, .bipush 100, 2), (354, .newarray .int, 2), (356, .putfield 145, 3), (359, .aload_n 0, 1), (360, .bipush 100, 2), (362, .newarray .int, 2), (364, .putfield 148, 3), (367, .aload_n 0, 1), (368, .bipush 100, 2), (370, .newarray .int, 2), (372, .putfield 151, 3), (375, .aload_n 0, 1), (376, .bipush 100, 2), (378, .newarray .int, 2), (380, .putfield 154, 3), (383, .aload_n 0, 1), (384, .bipush 100, 2), (386, .newarray .boolean, 2), (388, .putfield 157, 3), (391, .aload_n 0, 1), (392, .bipush 16, 2), (394, .newarray .int, 2), (396, .putfield 160, 3), (399, .aload_n 0, 1), (400, .sipush 768, 3), (403, .newarray .int, 2), (405, .putfield 163, 3), (408, .aload_n 0, 1), (409, .sipush 768, 3), (412, .newarray .int, 2), (414, .putfield 166, 3), (417, .aload_n 0, 1), (418, .sipush 768, 3), (421, .newarray .int, 2), (423, .putfield 169, 3), (426, .aload_n 0, 1), (427, .sipush 768, 3), (430, .newarray .int, 2), (432, .putfield 172, 3), (435, .aload_n 0, 1), (436, .bipush 120, 2), (438, .newarray .int, 2), (440, .putfield 175, 3), (443, .aload_n 0, 1), (444, .bipush 12, 2), (446, .newarray .int, 2), (448, .putfield 178, 3), (451, .aload_n 0, 1), (452, .iconst 1, 1), (453, .putfield 181, 3), (456, .iconst 0, 1), (457, .istore_n 1, 1), (458, .iload_n 1, 1), (459, .iconst 4, 1), (460, .if_icmp .ge 14, 3), (463, .aload_n 0, 1), (464, .iload_n 1, 1), (465, .invokevirtual 184, 3), (468, .iinc 1 1, 3), (471, .goto (-13), 3), (474, .iconst 0, 1), (475, .istore_n 1, 1), (476, .iload_n 1, 1), (477, .bipush 16, 2), (479, .if_icmp .ge 16, 3), (482, .aload_n 0, 1), (483, .getfield 160, 3), (486, .iload_n 1, 1), (487, .iconst (-1), 1), (488, .iastore, 1), (489, .iinc 1 1, 3), (492, .goto (-16), 3), (495, .iconst 0, 1), (496, .istore_n 1, 1), (497, .iload_n 1, 1), (498, .bipush 120, 2), (500, .if_icmp .ge 17, 3), (503, .aload_n 0, 1), (504, .getfield 175, 3), (507, .iload_n 1, 1), (508, .bipush (-2), 2), (510, .iastore, 1), (511, .iinc 1 1, 3), (514, .goto (-17), 3), (517, .return_, 1)]
theorem D_Model_init (i : Nat) {pc len : Nat} {ins : Instr} (hi : tb_Model_init[i]? = some (pc, ins, len)) : decode M_Model_init.2.1 pc = .ok (ins, len) := dec_of (by decide +kernel) i hi
set_option maxHeartbeats 4000000 in
set_option maxRecDepth 100000 in
theorem ck_72 {X : XT} : Call X false 20 55 14831 M_Model_init [rf X 81] 82 gk_61 (fun v a2 G2 => v = none ∧ a2 = 137 ∧ G2 = gk_71) := by
  refine Call_of_J cw_Model_init (by decide +kernel) (Nat.le_of_ble_eq_true rfl) ?_
  show J X false 20 55 14831 M_Model_init _ 82 0 0 0 [(0, rf X 81)] [] gk_61
  refine j_aloadn (k := 0) (D_Model_init 0 rfl) rfl rfl ?_
  refine j_objI rfl lo_Model_1 oi.1 oi.2 (by decide) (by decide) (D_Model_init 1 rfl) ?_
  refine j_aloadn (k := 0) (D_Model_init 2 rfl) rfl rfl ?_
  refine j_bipush (v := 32) (D_Model_init 3 rfl) rfl ?_
  refine j_newI (N := 32) kd_82 aw_I (wr_lit rfl) rfl (by decide) (by decide) (by decide) (D_Model_init 4 rfl) ?_
  refine j_putRF rfl rfl ho_Model fa_Model_7 (by first | exact Or.inl ⟨_, rfl⟩ | exact Or.inr ⟨_, rfl⟩) kd_81 (by decide) (by decide) rfl (by decide) rfl (D_Model_init 5 rfl) ?_
  refine j_aloadn (k := 0) (D_Model_init 6 rfl) rfl rfl ?_
  refine j_bipush (v := 32) (D_Model_init 7 rfl) rfl ?_
  refine j_newI (N := 32) kd_83 aw_I (wr_lit rfl) rfl (by decide) (by decide) (by decide) (D_Model_init 8 rfl) ?_
  refine j_putRF rfl rfl ho_Model fa_Model_13 (by first | exact Or.inl ⟨_, rfl⟩ | exact Or.inr ⟨_, rfl⟩) kd_81 (by decide) (by decide) rfl (by decide) rfl (D_Model_init 9 rfl) ?_
  refine j_aloadn (k := 0) (D_Model_init 10 rfl) rfl rfl ?_
  refine j_bipush (v := 32) (D_Model_init 11 rfl) rfl ?_
  refine j_newI (N := 32) kd_84 aw_I (wr_lit rfl) rfl (by decide) (by decide) (by decide) (D_Model_init 12 rfl) ?_
  refine j_putRF rfl rfl ho_Model fa_Model_16 (by first | exact Or.inl ⟨_, rfl⟩ | exact Or.inr ⟨_, rfl⟩) kd_81 (by decide) (by decide) rfl (by decide) rfl (D_Model_init 13 rfl) ?_
  refine j_aloadn (k := 0) (D_Model_init 14 rfl) rfl rfl ?_
  refine j_bipush (v := 32) (D_Model_init 15 rfl) rfl ?_
  refine j_newI (N := 32) kd_85 aw_I (wr_lit rfl) rfl (by decide) (by decide) (by decide) (D_Model_init 16 rfl) ?_
  refine j_putRF rfl rfl ho_Model fa_Model_19 (by first | exact Or.inl ⟨_, rfl⟩ | exact Or.inr ⟨_, rfl⟩) kd_81 (by decide) (by decide) rfl (by decide) rfl (D_Model_init 17 rfl) ?_
  refine j_aloadn (k := 0) (D_Model_init 18 rfl) rfl rfl ?_
  refine j_bipush (v := 32) (D_Model_init 19 rfl) rfl ?_
  refine j_newI (N := 32) kd_86 aw_I (wr_lit rfl) rfl (by decide) (by decide) (by decide) (D_Model_init 20 rfl) ?_
  refine j_putRF rfl rfl ho_Model fa_Model_22 (by first | exact Or.inl ⟨_, rfl⟩ | exact Or.inr ⟨_, rfl⟩) kd_81 (by decide) (by decide) rfl (by decide) rfl (D_Model_init 21 rfl) ?_
  refine j_aloadn (k := 0) (D_Model_init 22 rfl) rfl rfl ?_
  refine j_bipush (v := 32) (D_Model_init 23 rfl) rfl ?_
  refine j_newI (N := 32) kd_87 aw_I (wr_lit rfl) rfl (by decide) (by decide) (by decide) (D_Model_init 24 rfl) ?_
  refine j_putRF rfl rfl ho_Model fa_Model_25 (by first | exact Or.inl ⟨_, rfl⟩ | exact Or.inr ⟨_, rfl⟩) kd_81 (by decide) (by decide) rfl (by decide) rfl (D_Model_init 25 rfl) ?_
  refine j_aloadn (k := 0) (D_Model_init 26 rfl) rfl rfl ?_
  refine j_bipush (v := 32) (D_Model_init 27 rfl) rfl ?_
  refine j_newI (N := 32) kd_88 aw_I (wr_lit rfl) rfl (by decide) (by decide) (by decide) (D_Model_init 28 rfl) ?_
  refine j_putRF rfl rfl ho_Model fa_Model_28 (by first | exact Or.inl ⟨_, rfl⟩ | exact Or.inr ⟨_, rfl⟩) kd_81 (by decide) (by decide) rfl (by decide) rfl (D_Model_init 29 rfl) ?_
  refine j_aloadn (k := 0) (D_Model_init 30 rfl) rfl rfl ?_
  refine j_bipush (v := 32) (D_Model_init 31 rfl) rfl ?_
  refine j_newI (N := 32) kd_89 aw_I (wr_lit rfl) rfl (by decide) (by decide) (by decide) (D_Model_init 32 rfl) ?_
  refine j_putRF rfl rfl ho_Model fa_Model_31 (by first | exact Or.inl ⟨_, rfl⟩ | exact Or.inr ⟨_, rfl⟩) kd_81 (by decide) (by decide) rfl (by decide) rfl (D_Model_init 33 rfl) ?_
  refine j_aloadn (k := 0) (D_Model_init 34 rfl) rfl rfl ?_
  refine j_bipush (v := 12) (D_Model_init 35 rfl) rfl ?_
  refine j_newI (N := 12) kd_90 aw_I (wr_lit rfl) rfl (by decide) (by decide) (by decide) (D_Model_init 36 rfl) ?_
  refine j_putRF rfl rfl ho_Model fa_Model_34 (by first | exact Or.inl ⟨_, rfl⟩ | exact Or.inr ⟨_, rfl⟩) kd_81 (by decide) (by decide) rfl (by decide) rfl (D_Model_init 37 rfl) ?_
  refine j_aloadn (k := 0) (D_Model_init 38 rfl) rfl rfl ?_
  refine j_bipush (v := 12) (D_Model_init 39 rfl) rfl ?_
  refine j_newI (N := 12) kd_91 aw_I (wr_lit rfl) rfl (by decide) (by decide) (by decide) (D_Model_init 40 rfl) ?_
  refine j_putRF rfl rfl ho_Model fa_Model_37 (by first | exact Or.inl ⟨_, rfl⟩ | exact Or.inr ⟨_, rfl⟩) kd_81 (by decide) (by decide) rfl (by decide) rfl (D_Model_init 41 rfl) ?_
  refine j_aloadn (k := 0) (D_Model_init 42 rfl) rfl rfl ?_
  refine j_bipush (v := 12) (D_Model_init 43 rfl) rfl ?_
  refine j_newI (N := 12) kd_92 aw_I (wr_lit rfl) rfl (by decide) (by decide) (by decide) (D_Model_init 44 rfl) ?_
  refine j_putRF rfl rfl ho_Model fa_Model_40 (by first | exact Or.inl ⟨_, rfl⟩ | exact Or.inr ⟨_, rfl⟩) kd_81 (by decide) (by decide) rfl (by decide) rfl (D_Model_init 45 rfl) ?_
  refine j_aloadn (k := 0) (D_Model_init 46 rfl) rfl rfl ?_
  refine j_bipush (v := 72) (D_Model_init 47 rfl) rfl ?_
  refine j_newI (N := 72) kd_93 aw_I (wr_lit rfl) rfl (by decide) (by decide) (by decide) (D_Model_init 48 rfl) ?_
  refine j_putRF rfl rfl ho_Model fa_Model_43 (by first | exact Or.inl ⟨_, rfl⟩ | exact Or.inr ⟨_, rfl⟩) kd_81 (by decide) (by decide) rfl (by decide) rfl (D_Model_init 49 rfl) ?_
  refine j_aloadn (k := 0) (D_Model_init 50 rfl) rfl rfl ?_
  refine j_bipush (v := 72) (D_Model_init 51 rfl) rfl ?_
  refine j_newI (N := 72) kd_94 aw_I (wr_lit rfl) rfl (by decide) (by decide) (by decide) (D_Model_init 52 rfl) ?_
  refine j_putRF rfl rfl ho_Model fa_Model_46 (by first | exact Or.inl ⟨_, rfl⟩ | exact Or.inr ⟨_, rfl⟩) kd_81 (by decide) (by decide) rfl (by decide) rfl (D_Model_init 53 rfl) ?_
  refine j_aloadn (k := 0) (D_Model_init 54 rfl) rfl rfl ?_
  refine j_iconst (v := 4) (D_Model_init 55 rfl) rfl ?_
  refine j_newI (N := 4) kd_95 aw_I (wr_lit rfl) rfl (by decide) (by decide) (by decide) (D_Model_init 56 rfl) ?_
  refine j_putRF rfl rfl ho_Model fa_Model_49 (by first | exact Or.inl ⟨_, rfl⟩ | exact Or.inr ⟨_, rfl⟩) kd_81 (by decide) (by decide) rfl (by decide) rfl (D_Model_init 57 rfl) ?_
  refine j_aloadn (k := 0) (D_Model_init 58 rfl) rfl rfl ?_
  refine j_iconst (v := 4) (D_Model_init 59 rfl) rfl ?_
  refine j_newI (N := 4) kd_96 aw_I (wr_lit rfl) rfl (by decide) (by decide) (by decide) (D_Model_init 60 rfl) ?_
  refine j_putRF rfl rfl ho_Model fa_Model_52 (by first | exact Or.inl ⟨_, rfl⟩ | exact Or.inr ⟨_, rfl⟩) kd_81 (by decide) (by decide) rfl (by decide) rfl (D_Model_init 61 rfl) ?_
  refine j_aloadn (k := 0) (D_Model_init 62 rfl) rfl rfl ?_
  refine j_iconst (v := 4) (D_Model_init 63 rfl) rfl ?_
  refine j_newI (N := 4) kd_97 aw_I (wr_lit rfl) rfl (by decide) (by decide) (by decide) (D_Model_init 64 rfl) ?_
  refine j_putRF rfl rfl ho_Model fa_Model_55 (by first | exact Or.inl ⟨_, rfl⟩ | exact Or.inr ⟨_, rfl⟩) kd_81 (by decide) (by decide) rfl (by decide) rfl (D_Model_init 65 rfl) ?_
  refine j_aloadn (k := 0) (D_Model_init 66 rfl) rfl rfl ?_
  refine j_iconst (v := 4) (D_Model_init 67 rfl) rfl ?_
  refine j_newI (N := 4) kd_98 aw_I (wr_lit rfl) rfl (by decide) (by decide) (by decide) (D_Model_init 68 rfl) ?_
  refine j_putRF rfl rfl ho_Model fa_Model_58 (by first | exact Or.inl ⟨_, rfl⟩ | exact Or.inr ⟨_, rfl⟩) kd_81 (by decide) (by decide) rfl (by decide) rfl (D_Model_init 69 rfl) ?_
  refine j_aloadn (k := 0) (D_Model_init 70 rfl) rfl rfl ?_
  refine j_iconst (v := 4) (D_Model_init 71 rfl) rfl ?_
  refine j_newI (N := 4) kd_99 aw_I (wr_lit rfl) rfl (by decide) (by decide) (by decide) (D_Model_init 72 rfl) ?_
  refine j_putRF rfl rfl ho_Model fa_Model_61 (by first | exact Or.inl ⟨_, rfl⟩ | exact Or.inr ⟨_, rfl⟩) kd_81 (by decide) (by decide) rfl (by decide) rfl (D_Model_init 73 rfl) ?_
  refine j_aloadn (k := 0) (D_Model_init 74 rfl) rfl rfl ?_
  refine j_bipush (v := 16) (D_Model_init 75 rfl) rfl ?_
  refine j_newI (N := 16) kd_100 aw_I (wr_lit rfl) rfl (by decide) (by decide) (by decide) (D_Model_init 76 rfl) ?_
  refine j_putRF rfl rfl ho_Model fa_Model_64 (by first | exact Or.inl ⟨_, rfl⟩ | exact Or.inr ⟨_, rfl⟩) kd_81 (by decide) (by decide) rfl (by decide) rfl (D_Model_init 77 rfl) ?_
  refine j_aloadn (k := 0) (D_Model_init 78 rfl) rfl rfl ?_
  refine j_bipush (v := 12) (D_Model_init 79 rfl) rfl ?_
  refine j_newI (N := 12) kd_101 aw_I (wr_lit rfl) rfl (by decide) (by decide) (by decide) (D_Model_init 80 rfl) ?_
  refine j_putRF rfl rfl ho_Model fa_Model_67 (by first | exact Or.inl ⟨_, rfl⟩ | exact Or.inr ⟨_, rfl⟩) kd_81 (by decide) (by decide) rfl (by decide) rfl (D_Model_init 81 rfl) ?_
  refine j_aloadn (k := 0) (D_Model_init 82 rfl) rfl rfl ?_
  refine j_bipush (v := 12) (D_Model_init 83 rfl) rfl ?_
  refine j_newI (N := 12) kd_102 aw_I (wr_lit rfl) rfl (by decide) (by decide) (by decide) (D_Model_init 84 rfl) ?_
  refine j_putRF rfl rfl ho_Model fa_Model_70 (by first | exact Or.inl ⟨_, rfl⟩ | exact Or.inr ⟨_, rfl⟩) kd_81 (by decide) (by decide) rfl (by decide) rfl (D_Model_init 85 rfl) ?_
  refine j_aloadn (k := 0) (D_Model_init 86 rfl) rfl rfl ?_
  refine j_bipush (v := 12) (D_Model_init 87 rfl) rfl ?_
  refine j_newI (N := 12) kd_103 aw_I (wr_lit rfl) rfl (by decide) (by decide) (by decide) (D_Model_init 88 rfl) ?_
  refine j_putRF rfl rfl ho_Model fa_Model_73 (by first | exact Or.inl ⟨_, rfl⟩ | exact Or.inr ⟨_, rfl⟩) kd_81 (by decide) (by decide) rfl (by decide) rfl (D_Model_init 89 rfl) ?_
  refine j_aloadn (k := 0) (D_Model_init 90 rfl) rfl rfl ?_
  refine j_iconst (v := 4) (D_Model_init 91 rfl) rfl ?_
  refine j_newI (N := 4) kd_104 aw_I (wr_lit rfl) rfl (by decide) (by decide) (by decide) (D_Model_init 92 rfl) ?_
  refine j_putRF rfl rfl ho_Model fa_Model_76 (by first | exact Or.inl ⟨_, rfl⟩ | exact Or.inr ⟨_, rfl⟩) kd_81 (by decide) (by decide) rfl (by decide) rfl (D_Model_init 93 rfl) ?_
  refine j_aloadn (k := 0) (D_Model_init 94 rfl) rfl rfl ?_
  refine j_bipush (v := 120) (D_Model_init 95 rfl) rfl ?_
  refine j_newI (N := 120) kd_105 aw_I (wr_lit rfl) rfl (by decide) (by decide) (by decide) (D_Model_init 96 rfl) ?_
  refine j_putRF rfl rfl ho_Model fa_Model_79 (by first | exact Or.inl ⟨_, rfl⟩ | exact Or.inr ⟨_, rfl⟩) kd_81 (by decide) (by decide) rfl (by decide) rfl (D_Model_init 97 rfl) ?_
  refine j_aloadn (k := 0) (D_Model_init 98 rfl) rfl rfl ?_
  refine j_bipush (v := 124) (D_Model_init 99 rfl) rfl ?_
  refine j_newI (N := 124) kd_106 aw_I (wr_lit rfl) rfl (by decide) (by decide) (by decide) (D_Model_init 100 rfl) ?_
  refine j_putRF rfl rfl ho_Model fa_Model_82 (by first | exact Or.inl ⟨_, rfl⟩ | exact Or.inr ⟨_, rfl⟩) kd_81 (by decide) (by decide) rfl (by decide) rfl (D_Model_init 101 rfl) ?_
  refine j_aloadn (k := 0) (D_Model_init 102 rfl) rfl rfl ?_
  refine j_bipush (v := 120) (D_Model_init 103 rfl) rfl ?_
  refine j_newI (N := 120) kd_107 aw_I (wr_lit rfl) rfl (by decide) (by decide) (by decide) (D_Model_init 104 rfl) ?_
  refine j_putRF rfl rfl ho_Model fa_Model_85 (by first | exact Or.inl ⟨_, rfl⟩ | exact Or.inr ⟨_, rfl⟩) kd_81 (by decide) (by decide) rfl (by decide) rfl (D_Model_init 105 rfl) ?_
  refine j_aloadn (k := 0) (D_Model_init 106 rfl) rfl rfl ?_
  refine j_sipush (v := 6480) (D_Model_init 107 rfl) rfl ?_
  refine j_newI (N := 6480) kd_108 aw_I (wr_lit rfl) rfl (by decide) (by decide) (by decide) (D_Model_init 108 rfl) ?_
  refine j_putRF rfl rfl ho_Model fa_Model_88 (by first | exact Or.inl ⟨_, rfl⟩ | exact Or.inr ⟨_, rfl⟩) kd_81 (by decide) (by decide) rfl (by decide) rfl (D_Model_init 109 rfl) ?_
  refine j_aloadn (k := 0) (D_Model_init 110 rfl) rfl rfl ?_
  refine j_bipush (v := 30) (D_Model_init 111 rfl) rfl ?_
  refine j_newI (N := 30) kd_109 aw_I (wr_lit rfl) rfl (by decide) (by decide) (by decide) (D_Model_init 112 rfl) ?_
  refine j_putRF rfl rfl ho_Model fa_Model_91 (by first | exact Or.inl ⟨_, rfl⟩ | exact Or.inr ⟨_, rfl⟩) kd_81 (by decide) (by decide) rfl (by decide) rfl (D_Model_init 113 rfl) ?_
  refine j_aloadn (k := 0) (D_Model_init 114 rfl) rfl rfl ?_
  refine j_bipush (v := 30) (D_Model_init 115 rfl) rfl ?_
  refine j_newI (N := 30) kd_110 aw_I (wr_lit rfl) rfl (by decide) (by decide) (by decide) (D_Model_init 116 rfl) ?_
  refine j_putRF rfl rfl ho_Model fa_Model_94 (by first | exact Or.inl ⟨_, rfl⟩ | exact Or.inr ⟨_, rfl⟩) kd_81 (by decide) (by decide) rfl (by decide) rfl (D_Model_init 117 rfl) ?_
  refine j_aloadn (k := 0) (D_Model_init 118 rfl) rfl rfl ?_
  refine j_bipush (v := 30) (D_Model_init 119 rfl) rfl ?_
  refine j_newI (N := 30) kd_111 aw_I (wr_lit rfl) rfl (by decide) (by decide) (by decide) (D_Model_init 120 rfl) ?_
  refine j_putRF rfl rfl ho_Model fa_Model_97 (by first | exact Or.inl ⟨_, rfl⟩ | exact Or.inr ⟨_, rfl⟩) kd_81 (by decide) (by decide) rfl (by decide) rfl (D_Model_init 121 rfl) ?_
  refine j_aloadn (k := 0) (D_Model_init 122 rfl) rfl rfl ?_
  refine j_bipush (v := 30) (D_Model_init 123 rfl) rfl ?_
  refine j_newI (N := 30) kd_112 aw_I (wr_lit rfl) rfl (by decide) (by decide) (by decide) (D_Model_init 124 rfl) ?_
  refine j_putRF rfl rfl ho_Model fa_Model_100 (by first | exact Or.inl ⟨_, rfl⟩ | exact Or.inr ⟨_, rfl⟩) kd_81 (by decide) (by decide) rfl (by decide) rfl (D_Model_init 125 rfl) ?_
  refine j_aloadn (k := 0) (D_Model_init 126 rfl) rfl rfl ?_
  refine j_bipush (v := 30) (D_Model_init 127 rfl) rfl ?_
  refine j_newI (N := 30) kd_113 aw_I (wr_lit rfl) rfl (by decide) (by decide) (by decide) (D_Model_init 128 rfl) ?_
  refine j_putRF rfl rfl ho_Model fa_Model_103 (by first | exact Or.inl ⟨_, rfl⟩ | exact Or.inr ⟨_, rfl⟩) kd_81 (by decide) (by decide) rfl (by decide) rfl (D_Model_init 129 rfl) ?_
  refine j_aloadn (k := 0) (D_Model_init 130 rfl) rfl rfl ?_
  refine j_bipush (v := 31) (D_Model_init 131 rfl) rfl ?_
  refine j_newI (N := 31) kd_114 aw_I (wr_lit rfl) rfl (by decide) (by decide) (by decide) (D_Model_init 132 rfl) ?_
  refine j_putRF rfl rfl ho_Model fa_Model_106 (by first | exact Or.inl ⟨_, rfl⟩ | exact Or.inr ⟨_, rfl⟩) kd_81 (by decide) (by decide) rfl (by decide) rfl (D_Model_init 133 rfl) ?_
  refine j_aloadn (k := 0) (D_Model_init 134 rfl) rfl rfl ?_
  refine j_bipush (v := 30) (D_Model_init 135 rfl) rfl ?_
  refine j_newI (N := 30) kd_115 aw_I (wr_lit rfl) rfl (by decide) (by decide) (by decide) (D_Model_init 136 rfl) ?_
  refine j_putRF rfl rfl ho_Model fa_Model_109 (by first | exact Or.inl ⟨_, rfl⟩ | exact Or.inr ⟨_, rfl⟩) kd_81 (by decide) (by decide) rfl (by decide) rfl (D_Model_init 137 rfl) ?_
  refine j_aloadn (k := 0) (D_Model_init 138 rfl) rfl rfl ?_
  refine j_sipush (v := 1620) (D_Model_init 139 rfl) rfl ?_
  refine j_newI (N := 1620) kd_116 aw_I (wr_lit rfl) rfl (by decide) (by decide) (by decide) (D_Model_init 140 rfl) ?_
  refine j_putRF rfl rfl ho_Model fa_Model_112 (by first | exact Or.inl ⟨_, rfl⟩ | exact Or.inr ⟨_, rfl⟩) kd_81 (by decide) (by decide) rfl (by decide) rfl (D_Model_init 141 rfl) ?_
  refine j_aloadn (k := 0) (D_Model_init 142 rfl) rfl rfl ?_
  refine j_sipush (v := 800) (D_Model_init 143 rfl) rfl ?_
  refine j_newI (N := 800) kd_117 aw_I (wr_lit rfl) rfl (by decide) (by decide) (by decide) (D_Model_init 144 rfl) ?_
  refine j_putRF rfl rfl ho_Model fa_Model_115 (by first | exact Or.inl ⟨_, rfl⟩ | exact Or.inr ⟨_, rfl⟩) kd_81 (by decide) (by decide) rfl (by decide) rfl (D_Model_init 145 rfl) ?_
  refine j_aloadn (k := 0) (D_Model_init 146 rfl) rfl rfl ?_
  refine j_sipush (v := 820) (D_Model_init 147 rfl) rfl ?_
  refine j_newI (N := 820) kd_118 aw_I (wr_lit rfl) rfl (by decide) (by decide) (by decide) (D_Model_init 148 rfl) ?_
  refine j_putRF rfl rfl ho_Model fa_Model_118 (by first | exact Or.inl ⟨_, rfl⟩ | exact Or.inr ⟨_, rfl⟩) kd_81 (by decide) (by decide) rfl (by decide) rfl (D_Model_init 149 rfl) ?_
  refine j_aloadn (k := 0) (D_Model_init 150 rfl) rfl rfl ?_
  refine j_iconst (v := (-1)) (D_Model_init 151 rfl) rfl ?_
  refine j_putI rfl fa_Model_121 kd_81 (by decide) (by decide) rfl (D_Model_init 152 rfl) ?_
  refine j_aloadn (k := 0) (D_Model_init 153 rfl) rfl rfl ?_
  refine j_bipush (v := 32) (D_Model_init 154 rfl) rfl ?_
  refine j_newZ (N := 32) kd_119 aw_Z (wr_lit rfl) rfl (by decide) (by decide) (by decide) (D_Model_init 155 rfl) ?_
  refine j_putRF rfl rfl ho_Model fa_Model_125 (by first | exact Or.inl ⟨_, rfl⟩ | exact Or.inr ⟨_, rfl⟩) kd_81 (by decide) (by decide) rfl (by decide) rfl (D_Model_init 156 rfl) ?_
  refine j_aloadn (k := 0) (D_Model_init 157 rfl) rfl rfl ?_
  refine j_bipush (v := 32) (D_Model_init 158 rfl) rfl ?_
  refine j_newJ (N := 32) kd_120 aw_J (wr_lit rfl) rfl (by decide) (by decide) (by decide) (D_Model_init 159 rfl) ?_
  refine j_putRF rfl rfl ho_Model fa_Model_129 (by first | exact Or.inl ⟨_, rfl⟩ | exact Or.inr ⟨_, rfl⟩) kd_81 (by decide) (by decide) rfl (by decide) rfl (D_Model_init 160 rfl) ?_
  refine j_aloadn (k := 0) (D_Model_init 161 rfl) rfl rfl ?_
  refine j_bipush (v := 32) (D_Model_init 162 rfl) rfl ?_
  refine j_newJ (N := 32) kd_121 aw_J (wr_lit rfl) rfl (by decide) (by decide) (by decide) (D_Model_init 163 rfl) ?_
  refine j_putRF rfl rfl ho_Model fa_Model_133 (by first | exact Or.inl ⟨_, rfl⟩ | exact Or.inr ⟨_, rfl⟩) kd_81 (by decide) (by decide) rfl (by decide) rfl (D_Model_init 164 rfl) ?_
  refine j_aloadn (k := 0) (D_Model_init 165 rfl) rfl rfl ?_
  refine j_bipush (v := 8) (D_Model_init 166 rfl) rfl ?_
  refine j_newI (N := 8) kd_122 aw_I (wr_lit rfl) rfl (by decide) (by decide) (by decide) (D_Model_init 167 rfl) ?_
  refine j_putRF rfl rfl ho_Model fa_Model_136 (by first | exact Or.inl ⟨_, rfl⟩ | exact Or.inr ⟨_, rfl⟩) kd_81 (by decide) (by decide) rfl (by decide) rfl (D_Model_init 168 rfl) ?_
  refine j_aloadn (k := 0) (D_Model_init 169 rfl) rfl rfl ?_
  refine j_bipush (v := 100) (D_Model_init 170 rfl) rfl ?_
  refine j_newI (N := 100) kd_123 aw_I (wr_lit rfl) rfl (by decide) (by decide) (by decide) (D_Model_init 171 rfl) ?_
  refine j_putRF rfl rfl ho_Model fa_Model_139 (by first | exact Or.inl ⟨_, rfl⟩ | exact Or.inr ⟨_, rfl⟩) kd_81 (by decide) (by decide) rfl (by decide) rfl (D_Model_init 172 rfl) ?_
  refine j_aloadn (k := 0) (D_Model_init 173 rfl) rfl rfl ?_
  refine j_bipush (v := 100) (D_Model_init 174 rfl) rfl ?_
  refine j_newI (N := 100) kd_124 aw_I (wr_lit rfl) rfl (by decide) (by decide) (by decide) (D_Model_init 175 rfl) ?_
  refine j_putRF rfl rfl ho_Model fa_Model_142 (by first | exact Or.inl ⟨_, rfl⟩ | exact Or.inr ⟨_, rfl⟩) kd_81 (by decide) (by decide) rfl (by decide) rfl (D_Model_init 176 rfl) ?_
  refine j_aloadn (k := 0) (D_Model_init 177 rfl) rfl rfl ?_
  refine j_bipush (v := 100) (D_Model_init 178 rfl) rfl ?_
  refine j_newI (N := 100) kd_125 aw_I (wr_lit rfl) rfl (by decide) (by decide) (by decide) (D_Model_init 179 rfl) ?_
  refine j_putRF rfl rfl ho_Model fa_Model_145 (by first | exact Or.inl ⟨_, rfl⟩ | exact Or.inr ⟨_, rfl⟩) kd_81 (by decide) (by decide) rfl (by decide) rfl (D_Model_init 180 rfl) ?_
  refine j_aloadn (k := 0) (D_Model_init 181 rfl) rfl rfl ?_
  refine j_bipush (v := 100) (D_Model_init 182 rfl) rfl ?_
  refine j_newI (N := 100) kd_126 aw_I (wr_lit rfl) rfl (by decide) (by decide) (by decide) (D_Model_init 183 rfl) ?_
  refine j_putRF rfl rfl ho_Model fa_Model_148 (by first | exact Or.inl ⟨_, rfl⟩ | exact Or.inr ⟨_, rfl⟩) kd_81 (by decide) (by decide) rfl (by decide) rfl (D_Model_init 184 rfl) ?_
  refine j_aloadn (k := 0) (D_Model_init 185 rfl) rfl rfl ?_
  refine j_bipush (v := 100) (D_Model_init 186 rfl) rfl ?_
  refine j_newI (N := 100) kd_127 aw_I (wr_lit rfl) rfl (by decide) (by decide) (by decide) (D_Model_init 187 rfl) ?_
  refine j_putRF rfl rfl ho_Model fa_Model_151 (by first | exact Or.inl ⟨_, rfl⟩ | exact Or.inr ⟨_, rfl⟩) kd_81 (by decide) (by decide) rfl (by decide) rfl (D_Model_init 188 rfl) ?_
  refine j_aloadn (k := 0) (D_Model_init 189 rfl) rfl rfl ?_
  refine j_bipush (v := 100) (D_Model_init 190 rfl) rfl ?_
  refine j_newI (N := 100) kd_128 aw_I (wr_lit rfl) rfl (by decide) (by decide) (by decide) (D_Model_init 191 rfl) ?_
  refine j_putRF rfl rfl ho_Model fa_Model_154 (by first | exact Or.inl ⟨_, rfl⟩ | exact Or.inr ⟨_, rfl⟩) kd_81 (by decide) (by decide) rfl (by decide) rfl (D_Model_init 192 rfl) ?_
  refine j_aloadn (k := 0) (D_Model_init 193 rfl) rfl rfl ?_
  refine j_bipush (v := 100) (D_Model_init 194 rfl) rfl ?_
  refine j_newZ (N := 100) kd_129 aw_Z (wr_lit rfl) rfl (by decide) (by decide) (by decide) (D_Model_init 195 rfl) ?_
  refine j_putRF rfl rfl ho_Model fa_Model_157 (by first | exact Or.inl ⟨_, rfl⟩ | exact Or.inr ⟨_, rfl⟩) kd_81 (by decide) (by decide) rfl (by decide) rfl (D_Model_init 196 rfl) ?_
  refine j_aloadn (k := 0) (D_Model_init 197 rfl) rfl rfl ?_
  refine j_bipush (v := 16) (D_Model_init 198 rfl) rfl ?_
  refine j_newI (N := 16) kd_130 aw_I (wr_lit rfl) rfl (by decide) (by decide) (by decide) (D_Model_init 199 rfl) ?_
  refine j_putRF rfl rfl ho_Model fa_Model_160 (by first | exact Or.inl ⟨_, rfl⟩ | exact Or.inr ⟨_, rfl⟩) kd_81 (by decide) (by decide) rfl (by decide) rfl (D_Model_init 200 rfl) ?_
  refine j_aloadn (k := 0) (D_Model_init 201 rfl) rfl rfl ?_
  refine j_sipush (v := 768) (D_Model_init 202 rfl) rfl ?_
  refine j_newI (N := 768) kd_131 aw_I (wr_lit rfl) rfl (by decide) (by decide) (by decide) (D_Model_init 203 rfl) ?_
  refine j_putRF rfl rfl ho_Model fa_Model_163 (by first | exact Or.inl ⟨_, rfl⟩ | exact Or.inr ⟨_, rfl⟩) kd_81 (by decide) (by decide) rfl (by decide) rfl (D_Model_init 204 rfl) ?_
  refine j_aloadn (k := 0) (D_Model_init 205 rfl) rfl rfl ?_
  refine j_sipush (v := 768) (D_Model_init 206 rfl) rfl ?_
  refine j_newI (N := 768) kd_132 aw_I (wr_lit rfl) rfl (by decide) (by decide) (by decide) (D_Model_init 207 rfl) ?_
  refine j_putRF rfl rfl ho_Model fa_Model_166 (by first | exact Or.inl ⟨_, rfl⟩ | exact Or.inr ⟨_, rfl⟩) kd_81 (by decide) (by decide) rfl (by decide) rfl (D_Model_init 208 rfl) ?_
  refine j_aloadn (k := 0) (D_Model_init 209 rfl) rfl rfl ?_
  refine j_sipush (v := 768) (D_Model_init 210 rfl) rfl ?_
  refine j_newI (N := 768) kd_133 aw_I (wr_lit rfl) rfl (by decide) (by decide) (by decide) (D_Model_init 211 rfl) ?_
  refine j_putRF rfl rfl ho_Model fa_Model_169 (by first | exact Or.inl ⟨_, rfl⟩ | exact Or.inr ⟨_, rfl⟩) kd_81 (by decide) (by decide) rfl (by decide) rfl (D_Model_init 212 rfl) ?_
  refine j_aloadn (k := 0) (D_Model_init 213 rfl) rfl rfl ?_
  refine j_sipush (v := 768) (D_Model_init 214 rfl) rfl ?_
  refine j_newI (N := 768) kd_134 aw_I (wr_lit rfl) rfl (by decide) (by decide) (by decide) (D_Model_init 215 rfl) ?_
  refine j_putRF rfl rfl ho_Model fa_Model_172 (by first | exact Or.inl ⟨_, rfl⟩ | exact Or.inr ⟨_, rfl⟩) kd_81 (by decide) (by decide) rfl (by decide) rfl (D_Model_init 216 rfl) ?_
  refine j_aloadn (k := 0) (D_Model_init 217 rfl) rfl rfl ?_
  refine j_bipush (v := 120) (D_Model_init 218 rfl) rfl ?_
  refine j_newI (N := 120) kd_135 aw_I (wr_lit rfl) rfl (by decide) (by decide) (by decide) (D_Model_init 219 rfl) ?_
  refine j_putRF rfl rfl ho_Model fa_Model_175 (by first | exact Or.inl ⟨_, rfl⟩ | exact Or.inr ⟨_, rfl⟩) kd_81 (by decide) (by decide) rfl (by decide) rfl (D_Model_init 220 rfl) ?_
  refine j_aloadn (k := 0) (D_Model_init 221 rfl) rfl rfl ?_
  refine j_bipush (v := 12) (D_Model_init 222 rfl) rfl ?_
  refine j_newI (N := 12) kd_136 aw_I (wr_lit rfl) rfl (by decide) (by decide) (by decide) (D_Model_init 223 rfl) ?_
  refine j_putRF rfl rfl ho_Model fa_Model_178 (by first | exact Or.inl ⟨_, rfl⟩ | exact Or.inr ⟨_, rfl⟩) kd_81 (by decide) (by decide) rfl (by decide) rfl (D_Model_init 224 rfl) ?_
  refine j_aloadn (k := 0) (D_Model_init 225 rfl) rfl rfl ?_
  refine j_iconst (v := 1) (D_Model_init 226 rfl) rfl ?_
  refine j_putI rfl fa_Model_181 kd_81 (by decide) (by decide) rfl (D_Model_init 227 rfl) ?_
  refine j_iconst (v := 0) (D_Model_init 228 rfl) rfl ?_
  refine j_istoren (L' := [(1, vi 0), (0, rf X 81)]) (D_Model_init 229 rfl) rfl (wr_lit rfl) (by decide) rfl ?_
  refine j_iloadn (k := 0) (D_Model_init 230 rfl) rfl rfl ?_
  refine j_iconst (v := 4) (D_Model_init 231 rfl) rfl ?_
  refine j_ic_ge (tgt := 474) (D_Model_init 232 rfl) rfl (wr_lit rfl) (wr_lit rfl) (fun h => absurd h (by decide)) (fun _ => ?_)
  refine j_aloadn (k := 1) (D_Model_init 233 rfl) rfl rfl ?_
  refine j_iloadn (k := 0) (D_Model_init 234 rfl) rfl rfl ?_
  refine j_callV (As := [vi 0]) (kk := 1) rfl lk_Model_184 mok_Model_clears kd_81 rfl (by decide) (by decide) (by decide) rfl rfl (Nat.le_of_ble_eq_true rfl) (Call.noFx fxk_gk_63 (c_Model_clears (wr_lit rfl) sk_gk_64)) (D_Model_init 235 rfl) (fun v a2 G2 q => ?_)
  obtain ⟨rfl, rfl, rfl⟩ := q
  refine j_iinc (k := 0) (x' := 1) (L' := [(1, vi 1), (0, rf X 81)]) (D_Model_init 236 rfl) rfl (by decide +kernel) (by decide) rfl ?_
  refine j_goto (tgt := 458) (D_Model_init 237 rfl) rfl ?_
  refine j_iloadn (k := 0) (D_Model_init 230 rfl) rfl rfl ?_
  refine j_iconst (v := 4) (D_Model_init 231 rfl) rfl ?_
  refine j_ic_ge (tgt := 474) (D_Model_init 232 rfl) rfl (wr_lit rfl) (wr_lit rfl) (fun h => absurd h (by decide)) (fun _ => ?_)
  refine j_aloadn (k := 1) (D_Model_init 233 rfl) rfl rfl ?_
  refine j_iloadn (k := 0) (D_Model_init 234 rfl) rfl rfl ?_
  refine j_callV (As := [vi 1]) (kk := 1) rfl lk_Model_184 mok_Model_clears kd_81 rfl (by decide) (by decide) (by decide) rfl rfl (Nat.le_of_ble_eq_true rfl) (Call.noFx fxk_gk_65 (c_Model_clears (wr_lit rfl) sk_gk_66)) (D_Model_init 235 rfl) (fun v a2 G2 q => ?_)
  obtain ⟨rfl, rfl, rfl⟩ := q
  refine j_iinc (k := 0) (x' := 2) (L' := [(1, vi 2), (0, rf X 81)]) (D_Model_init 236 rfl) rfl (by decide +kernel) (by decide) rfl ?_
  refine j_goto (tgt := 458) (D_Model_init 237 rfl) rfl ?_
  refine j_iloadn (k := 0) (D_Model_init 230 rfl) rfl rfl ?_
  refine j_iconst (v := 4) (D_Model_init 231 rfl) rfl ?_
  refine j_ic_ge (tgt := 474) (D_Model_init 232 rfl) rfl (wr_lit rfl) (wr_lit rfl) (fun h => absurd h (by decide)) (fun _ => ?_)
  refine j_aloadn (k := 1) (D_Model_init 233 rfl) rfl rfl ?_
  refine j_iloadn (k := 0) (D_Model_init 234 rfl) rfl rfl ?_
  refine j_callV (As := [vi 2]) (kk := 1) rfl lk_Model_184 mok_Model_clears kd_81 rfl (by decide) (by decide) (by decide) rfl rfl (Nat.le_of_ble_eq_true rfl) (Call.noFx fxk_gk_67 (c_Model_clears (wr_lit rfl) sk_gk_68)) (D_Model_init 235 rfl) (fun v a2 G2 q => ?_)
  obtain ⟨rfl, rfl, rfl⟩ := q
  refine j_iinc (k := 0) (x' := 3) (L' := [(1, vi 3), (0, rf X 81)]) (D_Model_init 236 rfl) rfl (by decide +kernel) (by decide) rfl ?_
  refine j_goto (tgt := 458) (D_Model_init 237 rfl) rfl ?_
  refine j_iloadn (k := 0) (D_Model_init 230 rfl) rfl rfl ?_
  refine j_iconst (v := 4) (D_Model_init 231 rfl) rfl ?_
  refine j_ic_ge (tgt := 474) (D_Model_init 232 rfl) rfl (wr_lit rfl) (wr_lit rfl) (fun h => absurd h (by decide)) (fun _ => ?_)
  refine j_aloadn (k := 1) (D_Model_init 233 rfl) rfl rfl ?_
  refine j_iloadn (k := 0) (D_Model_init 234 rfl) rfl rfl ?_
  refine j_callV (As := [vi 3]) (kk := 1) rfl lk_Model_184 mok_Model_clears kd_81 rfl (by decide) (by decide) (by decide) rfl rfl (Nat.le_of_ble_eq_true rfl) (Call.noFx fxk_gk_69 (c_Model_clears (wr_lit rfl) sk_gk_70)) (D_Model_init 235 rfl) (fun v a2 G2 q => ?_)
  obtain ⟨rfl, rfl, rfl⟩ := q
  refine j_iinc (k := 0) (x' := 4) (L' := [(1, vi 4), (0, rf X 81)]) (D_Model_init 236 rfl) rfl (by decide +kernel) (by decide) rfl ?_
  refine j_goto (tgt := 458) (D_Model_init 237 rfl) rfl ?_
  refine j_iloadn (k := 0) (D_Model_init 230 rfl) rfl rfl ?_
  refine j_iconst (v := 4) (D_Model_init 231 rfl) rfl ?_
  refine j_ic_ge (tgt := 474) (D_Model_init 232 rfl) rfl (wr_lit rfl) (wr_lit rfl) (fun _ => ?_) (fun h => absurd (by decide) h)
  refine j_iconst (v := 0) (D_Model_init 238 rfl) rfl ?_
  refine j_istoren (L' := [(1, vi 0), (0, rf X 81)]) (D_Model_init 239 rfl) rfl (wr_lit rfl) (by decide) rfl ?_
  refine j_iloadn (k := 0) (D_Model_init 240 rfl) rfl rfl ?_
  refine j_bipush (v := 16) (D_Model_init 241 rfl) rfl ?_
  refine j_ic_ge (tgt := 495) (D_Model_init 242 rfl) rfl (wr_lit rfl) (wr_lit rfl) (fun h => absurd h (by decide)) (fun _ => ?_)
  refine j_aloadn (k := 1) (D_Model_init 243 rfl) rfl rfl ?_
  refine j_getR (t := 130) rfl fa_Model_160 kd_81 (by decide) (by decide) rfl (fun _ => by decide +kernel) (by decide) (D_Model_init 244 rfl) ?_
  refine j_iloadn (k := 0) (D_Model_init 245 rfl) rfl rfl ?_
  refine j_iconst (v := (-1)) (D_Model_init 246 rfl) rfl ?_
  refine j_iast (NI := 16) (D_Model_init 247 rfl) kd_130 (by decide) (wr_lit rfl) rfl (by decide) (by decide) ?_
  refine j_iinc (k := 0) (x' := 1) (L' := [(1, vi 1), (0, rf X 81)]) (D_Model_init 248 rfl) rfl (by decide +kernel) (by decide) rfl ?_
  refine j_goto (tgt := 476) (D_Model_init 249 rfl) rfl ?_
  refine j_iloadn (k := 0) (D_Model_init 240 rfl) rfl rfl ?_
  refine j_bipush (v := 16) (D_Model_init 241 rfl) rfl ?_
  refine j_ic_ge (tgt := 495) (D_Model_init 242 rfl) rfl (wr_lit rfl) (wr_lit rfl) (fun h => absurd h (by decide)) (fun _ => ?_)
  refine j_aloadn (k := 1) (D_Model_init 243 rfl) rfl rfl ?_
  refine j_getR (t := 130) rfl fa_Model_160 kd_81 (by decide) (by decide) rfl (fun _ => by decide +kernel) (by decide) (D_Model_init 244 rfl) ?_
  refine j_iloadn (k := 0) (D_Model_init 245 rfl) rfl rfl ?_
  refine j_iconst (v := (-1)) (D_Model_init 246 rfl) rfl ?_
  refine j_iast (NI := 16) (D_Model_init 247 rfl) kd_130 (by decide) (wr_lit rfl) rfl (by decide) (by decide) ?_
  refine j_iinc (k := 0) (x' := 2) (L' := [(1, vi 2), (0, rf X 81)]) (D_Model_init 248 rfl) rfl (by decide +kernel) (by decide) rfl ?_
  refine j_goto (tgt := 476) (D_Model_init 249 rfl) rfl ?_
  refine j_iloadn (k := 0) (D_Model_init 240 rfl) rfl rfl ?_
  refine j_bipush (v := 16) (D_Model_init 241 rfl) rfl ?_
  refine j_ic_ge (tgt := 495) (D_Model_init 242 rfl) rfl (wr_lit rfl) (wr_lit rfl) (fun h => absurd h (by decide)) (fun _ => ?_)
  refine j_aloadn (k := 1) (D_Model_init 243 rfl) rfl rfl ?_
  refine j_getR (t := 130) rfl fa_Model_160 kd_81 (by decide) (by decide) rfl (fun _ => by decide +kernel) (by decide) (D_Model_init 244 rfl) ?_
  refine j_iloadn (k := 0) (D_Model_init 245 rfl) rfl rfl ?_
  refine j_iconst (v := (-1)) (D_Model_init 246 rfl) rfl ?_
  refine j_iast (NI := 16) (D_Model_init 247 rfl) kd_130 (by decide) (wr_lit rfl) rfl (by decide) (by decide) ?_
  refine j_iinc (k := 0) (x' := 3) (L' := [(1, vi 3), (0, rf X 81)]) (D_Model_init 248 rfl) rfl (by decide +kernel) (by decide) rfl ?_
  refine j_goto (tgt := 476) (D_Model_init 249 rfl) rfl ?_
  refine j_iloadn (k := 0) (D_Model_init 240 rfl) rfl rfl ?_
  refine j_bipush (v := 16) (D_Model_init 241 rfl) rfl ?_
  refine j_ic_ge (tgt := 495) (D_Model_init 242 rfl) rfl (wr_lit rfl) (wr_lit rfl) (fun h => absurd h (by decide)) (fun _ => ?_)
  refine j_aloadn (k := 1) (D_Model_init 243 rfl) rfl rfl ?_
  refine j_getR (t := 130) rfl fa_Model_160 kd_81 (by decide) (by decide) rfl (fun _ => by decide +kernel) (by decide) (D_Model_init 244 rfl) ?_
  refine j_iloadn (k := 0) (D_Model_init 245 rfl) rfl rfl ?_
  refine j_iconst (v := (-1)) (D_Model_init 246 rfl) rfl ?_
  refine j_iast (NI := 16) (D_Model_init 247 rfl) kd_130 (by decide) (wr_lit rfl) rfl (by decide) (by decide) ?_
  refine j_iinc (k := 0) (x' := 4) (L' := [(1, vi 4), (0, rf X 81)]) (D_Model_init 248 rfl) rfl (by decide +kernel) (by decide) rfl ?_
  refine j_goto (tgt := 476) (D_Model_init 249 rfl) rfl ?_
  refine j_iloadn (k := 0) (D_Model_init 240 rfl) rfl rfl ?_
  refine j_bipush (v := 16) (D_Model_init 241 rfl) rfl ?_
  refine j_ic_ge (tgt := 495) (D_Model_init 242 rfl) rfl (wr_lit rfl) (wr_lit rfl) (fun h => absurd h (by decide)) (fun _ => ?_)
  refine j_aloadn (k := 1) (D_Model_init 243 rfl) rfl rfl ?_
  refine j_getR (t := 130) rfl fa_Model_160 kd_81 (by decide) (by decide) rfl (fun _ => by decide +kernel) (by decide) (D_Model_init 244 rfl) ?_
  refine j_iloadn (k := 0) (D_Model_init 245 rfl) rfl rfl ?_
  refine j_iconst (v := (-1)) (D_Model_init 246 rfl) rfl ?_
  refine j_iast (NI := 16) (D_Model_init 247 rfl) kd_130 (by decide) (wr_lit rfl) rfl (by decide) (by decide) ?_
  refine j_iinc (k := 0) (x' := 5) (L' := [(1, vi 5), (0, rf X 81)]) (D_Model_init 248 rfl) rfl (by decide +kernel) (by decide) rfl ?_
  refine j_goto (tgt := 476) (D_Model_init 249 rfl) rfl ?_
  refine j_iloadn (k := 0) (D_Model_init 240 rfl) rfl rfl ?_
  refine j_bipush (v := 16) (D_Model_init 241 rfl) rfl ?_
  refine j_ic_ge (tgt := 495) (D_Model_init 242 rfl) rfl (wr_lit rfl) (wr_lit rfl) (fun h => absurd h (by decide)) (fun _ => ?_)
  refine j_aloadn (k := 1) (D_Model_init 243 rfl) rfl rfl ?_
  refine j_getR (t := 130) rfl fa_Model_160 kd_81 (by decide) (by decide) rfl (fun _ => by decide +kernel) (by decide) (D_Model_init 244 rfl) ?_
  refine j_iloadn (k := 0) (D_Model_init 245 rfl) rfl rfl ?_
  refine j_iconst (v := (-1)) (D_Model_init 246 rfl) rfl ?_
  refine j_iast (NI := 16) (D_Model_init 247 rfl) kd_130 (by decide) (wr_lit rfl) rfl (by decide) (by decide) ?_
  refine j_iinc (k := 0) (x' := 6) (L' := [(1, vi 6), (0, rf X 81)]) (D_Model_init 248 rfl) rfl (by decide +kernel) (by decide) rfl ?_
  refine j_goto (tgt := 476) (D_Model_init 249 rfl) rfl ?_
  refine j_iloadn (k := 0) (D_Model_init 240 rfl) rfl rfl ?_
  refine j_bipush (v := 16) (D_Model_init 241 rfl) rfl ?_
  refine j_ic_ge (tgt := 495) (D_Model_init 242 rfl) rfl (wr_lit rfl) (wr_lit rfl) (fun h => absurd h (by decide)) (fun _ => ?_)
  refine j_aloadn (k := 1) (D_Model_init 243 rfl) rfl rfl ?_
  refine j_getR (t := 130) rfl fa_Model_160 kd_81 (by decide) (by decide) rfl (fun _ => by decide +kernel) (by decide) (D_Model_init 244 rfl) ?_
  refine j_iloadn (k := 0) (D_Model_init 245 rfl) rfl rfl ?_
  refine j_iconst (v := (-1)) (D_Model_init 246 rfl) rfl ?_
  refine j_iast (NI := 16) (D_Model_init 247 rfl) kd_130 (by decide) (wr_lit rfl) rfl (by decide) (by decide) ?_
  refine j_iinc (k := 0) (x' := 7) (L' := [(1, vi 7), (0, rf X 81)]) (D_Model_init 248 rfl) rfl (by decide +kernel) (by decide) rfl ?_
  refine j_goto (tgt := 476) (D_Model_init 249 rfl) rfl ?_
  refine j_iloadn (k := 0) (D_Model_init 240 rfl) rfl rfl ?_
  refine j_bipush (v := 16) (D_Model_init 241 rfl) rfl ?_
  refine j_ic_ge (tgt := 495) (D_Model_init 242 rfl) rfl (wr_lit rfl) (wr_lit rfl) (fun h => absurd h (by decide)) (fun _ => ?_)
  refine j_aloadn (k := 1) (D_Model_init 243 rfl) rfl rfl ?_
  refine j_getR (t := 130) rfl fa_Model_160 kd_81 (by decide) (by decide) rfl (fun _ => by decide +kernel) (by decide) (D_Model_init 244 rfl) ?_
  refine j_iloadn (k := 0) (D_Model_init 245 rfl) rfl rfl ?_
  refine j_iconst (v := (-1)) (D_Model_init 246 rfl) rfl ?_
  refine j_iast (NI := 16) (D_Model_init 247 rfl) kd_130 (by decide) (wr_lit rfl) rfl (by decide) (by decide) ?_
  refine j_iinc (k := 0) (x' := 8) (L' := [(1, vi 8), (0, rf X 81)]) (D_Model_init 248 rfl) rfl (by decide +kernel) (by decide) rfl ?_
  refine j_goto (tgt := 476) (D_Model_init 249 rfl) rfl ?_
  refine j_iloadn (k := 0) (D_Model_init 240 rfl) rfl rfl ?_
  refine j_bipush (v := 16) (D_Model_init 241 rfl) rfl ?_
  refine j_ic_ge (tgt := 495) (D_Model_init 242 rfl) rfl (wr_lit rfl) (wr_lit rfl) (fun h => absurd h (by decide)) (fun _ => ?_)
  refine j_aloadn (k := 1) (D_Model_init 243 rfl) rfl rfl ?_
  refine j_getR (t := 130) rfl fa_Model_160 kd_81 (by decide) (by decide) rfl (fun _ => by decide +kernel) (by decide) (D_Model_init 244 rfl) ?_
  refine j_iloadn (k := 0) (D_Model_init 245 rfl) rfl rfl ?_
  refine j_iconst (v := (-1)) (D_Model_init 246 rfl) rfl ?_
  refine j_iast (NI := 16) (D_Model_init 247 rfl) kd_130 (by decide) (wr_lit rfl) rfl (by decide) (by decide) ?_
  refine j_iinc (k := 0) (x' := 9) (L' := [(1, vi 9), (0, rf X 81)]) (D_Model_init 248 rfl) rfl (by decide +kernel) (by decide) rfl ?_
  refine j_goto (tgt := 476) (D_Model_init 249 rfl) rfl ?_
  refine j_iloadn (k := 0) (D_Model_init 240 rfl) rfl rfl ?_
  refine j_bipush (v := 16) (D_Model_init 241 rfl) rfl ?_
  refine j_ic_ge (tgt := 495) (D_Model_init 242 rfl) rfl (wr_lit rfl) (wr_lit rfl) (fun h => absurd h (by decide)) (fun _ => ?_)
  refine j_aloadn (k := 1) (D_Model_init 243 rfl) rfl rfl ?_
  refine j_getR (t := 130) rfl fa_Model_160 kd_81 (by decide) (by decide) rfl (fun _ => by decide +kernel) (by decide) (D_Model_init 244 rfl) ?_
  refine j_iloadn (k := 0) (D_Model_init 245 rfl) rfl rfl ?_
  refine j_iconst (v := (-1)) (D_Model_init 246 rfl) rfl ?_
  refine j_iast (NI := 16) (D_Model_init 247 rfl) kd_130 (by decide) (wr_lit rfl) rfl (by decide) (by decide) ?_
  refine j_iinc (k := 0) (x' := 10) (L' := [(1, vi 10), (0, rf X 81)]) (D_Model_init 248 rfl) rfl (by decide +kernel) (by decide) rfl ?_
  refine j_goto (tgt := 476) (D_Model_init 249 rfl) rfl ?_
  refine j_iloadn (k := 0) (D_Model_init 240 rfl) rfl rfl ?_
  refine j_bipush (v := 16) (D_Model_init 241 rfl) rfl ?_
  refine j_ic_ge (tgt := 495) (D_Model_init 242 rfl) rfl (wr_lit rfl) (wr_lit rfl) (fun h => absurd h (by decide)) (fun _ => ?_)
  refine j_aloadn (k := 1) (D_Model_init 243 rfl) rfl rfl ?_
  refine j_getR (t := 130) rfl fa_Model_160 kd_81 (by decide) (by decide) rfl (fun _ => by decide +kernel) (by decide) (D_Model_init 244 rfl) ?_
  refine j_iloadn (k := 0) (D_Model_init 245 rfl) rfl rfl ?_
  refine j_iconst (v := (-1)) (D_Model_init 246 rfl) rfl ?_
  refine j_iast (NI := 16) (D_Model_init 247 rfl) kd_130 (by decide) (wr_lit rfl) rfl (by decide) (by decide) ?_
  refine j_iinc (k := 0) (x' := 11) (L' := [(1, vi 11), (0, rf X 81)]) (D_Model_init 248 rfl) rfl (by decide +kernel) (by decide) rfl ?_
  refine j_goto (tgt := 476) (D_Model_init 249 rfl) rfl ?_
  refine j_iloadn (k := 0) (D_Model_init 240 rfl) rfl rfl ?_
  refine j_bipush (v := 16) (D_Model_init 241 rfl) rfl ?_
  refine j_ic_ge (tgt := 495) (D_Model_init 242 rfl) rfl (wr_lit rfl) (wr_lit rfl) (fun h => absurd h (by decide)) (fun _ => ?_)
  refine j_aloadn (k := 1) (D_Model_init 243 rfl) rfl rfl ?_
  refine j_getR (t := 130) rfl fa_Model_160 kd_81 (by decide) (by decide) rfl (fun _ => by decide +kernel) (by decide) (D_Model_init 244 rfl) ?_
  refine j_iloadn (k := 0) (D_Model_init 245 rfl) rfl rfl ?_
  refine j_iconst (v := (-1)) (D_Model_init 246 rfl) rfl ?_
  refine j_iast (NI := 16) (D_Model_init 247 rfl) kd_130 (by decide) (wr_lit rfl) rfl (by decide) (by decide) ?_
  refine j_iinc (k := 0) (x' := 12) (L' := [(1, vi 12), (0, rf X 81)]) (D_Model_init 248 rfl) rfl (by decide +kernel) (by decide) rfl ?_
  refine j_goto (tgt := 476) (D_Model_init 249 rfl) rfl ?_
  refine j_iloadn (k := 0) (D_Model_init 240 rfl) rfl rfl ?_
  refine j_bipush (v := 16) (D_Model_init 241 rfl) rfl ?_
  refine j_ic_ge (tgt := 495) (D_Model_init 242 rfl) rfl (wr_lit rfl) (wr_lit rfl) (fun h => absurd h (by decide)) (fun _ => ?_)
  refine j_aloadn (k := 1) (D_Model_init 243 rfl) rfl rfl ?_
  refine j_getR (t := 130) rfl fa_Model_160 kd_81 (by decide) (by decide) rfl (fun _ => by decide +kernel) (by decide) (D_Model_init 244 rfl) ?_
  refine j_iloadn (k := 0) (D_Model_init 245 rfl) rfl rfl ?_
  refine j_iconst (v := (-1)) (D_Model_init 246 rfl) rfl ?_
  refine j_iast (NI := 16) (D_Model_init 247 rfl) kd_130 (by decide) (wr_lit rfl) rfl (by decide) (by decide) ?_
  refine j_iinc (k := 0) (x' := 13) (L' := [(1, vi 13), (0, rf X 81)]) (D_Model_init 248 rfl) rfl (by decide +kernel) (by decide) rfl ?_
  refine j_goto (tgt := 476) (D_Model_init 249 rfl) rfl ?_
  refine j_iloadn (k := 0) (D_Model_init 240 rfl) rfl rfl ?_
  refine j_bipush (v := 16) (D_Model_init 241 rfl) rfl ?_
  refine j_ic_ge (tgt := 495) (D_Model_init 242 rfl) rfl (wr_lit rfl) (wr_lit rfl) (fun h => absurd h (by decide)) (fun _ => ?_)
  refine j_aloadn (k := 1) (D_Model_init 243 rfl) rfl rfl ?_
  refine j_getR (t := 130) rfl fa_Model_160 kd_81 (by decide) (by decide) rfl (fun _ => by decide +kernel) (by decide) (D_Model_init 244 rfl) ?_
  refine j_iloadn (k := 0) (D_Model_init 245 rfl) rfl rfl ?_
  refine j_iconst (v := (-1)) (D_Model_init 246 rfl) rfl ?_
  refine j_iast (NI := 16) (D_Model_init 247 rfl) kd_130 (by decide) (wr_lit rfl) rfl (by decide) (by decide) ?_
  refine j_iinc (k := 0) (x' := 14) (L' := [(1, vi 14), (0, rf X 81)]) (D_Model_init 248 rfl) rfl (by decide +kernel) (by decide) rfl ?_
  refine j_goto (tgt := 476) (D_Model_init 249 rfl) rfl ?_
  refine j_iloadn (k := 0) (D_Model_init 240 rfl) rfl rfl ?_
  refine j_bipush (v := 16) (D_Model_init 241 rfl) rfl ?_
  refine j_ic_ge (tgt := 495) (D_Model_init 242 rfl) rfl (wr_lit rfl) (wr_lit rfl) (fun h => absurd h (by decide)) (fun _ => ?_)
  refine j_aloadn (k := 1) (D_Model_init 243 rfl) rfl rfl ?_
  refine j_getR (t := 130) rfl fa_Model_160 kd_81 (by decide) (by decide) rfl (fun _ => by decide +kernel) (by decide) (D_Model_init 244 rfl) ?_
  refine j_iloadn (k := 0) (D_Model_init 245 rfl) rfl rfl ?_
  refine j_iconst (v := (-1)) (D_Model_init 246 rfl) rfl ?_
  refine j_iast (NI := 16) (D_Model_init 247 rfl) kd_130 (by decide) (wr_lit rfl) rfl (by decide) (by decide) ?_
  refine j_iinc (k := 0) (x' := 15) (L' := [(1, vi 15), (0, rf X 81)]) (D_Model_init 248 rfl) rfl (by decide +kernel) (by decide) rfl ?_
  refine j_goto (tgt := 476) (D_Model_init 249 rfl) rfl ?_
  refine j_iloadn (k := 0) (D_Model_init 240 rfl) rfl rfl ?_
  refine j_bipush (v := 16) (D_Model_init 241 rfl) rfl ?_
  refine j_ic_ge (tgt := 495) (D_Model_init 242 rfl) rfl (wr_lit rfl) (wr_lit rfl) (fun h => absurd h (by decide)) (fun _ => ?_)
  refine j_aloadn (k := 1) (D_Model_init 243 rfl) rfl rfl ?_
  refine j_getR (t := 130) rfl fa_Model_160 kd_81 (by decide) (by decide) rfl (fun _ => by decide +kernel) (by decide) (D_Model_init 244 rfl) ?_
  refine j_iloadn (k := 0) (D_Model_init 245 rfl) rfl rfl ?_
  refine j_iconst (v := (-1)) (D_Model_init 246 rfl) rfl ?_
  refine j_iast (NI := 16) (D_Model_init 247 rfl) kd_130 (by decide) (wr_lit rfl) rfl (by decide) (by decide) ?_
  refine j_iinc (k := 0) (x' := 16) (L' := [(1, vi 16), (0, rf X 81)]) (D_Model_init 248 rfl) rfl (by decide +kernel) (by decide) rfl ?_
  refine j_goto (tgt := 476) (D_Model_init 249 rfl) rfl ?_
  refine j_iloadn (k := 0) (D_Model_init 240 rfl) rfl rfl ?_
  refine j_bipush (v := 16) (D_Model_init 241 rfl) rfl ?_
  refine j_ic_ge (tgt := 495) (D_Model_init 242 rfl) rfl (wr_lit rfl) (wr_lit rfl) (fun _ => ?_) (fun h => absurd (by decide) h)
  refine j_iconst (v := 0) (D_Model_init 250 rfl) rfl ?_
  refine j_istoren (L' := [(1, vi 0), (0, rf X 81)]) (D_Model_init 251 rfl) rfl (wr_lit rfl) (by decide) rfl ?_
  refine j_iloadn (k := 0) (D_Model_init 252 rfl) rfl rfl ?_
  refine j_bipush (v := 120) (D_Model_init 253 rfl) rfl ?_
  refine j_ic_ge (tgt := 517) (D_Model_init 254 rfl) rfl (wr_lit rfl) (wr_lit rfl) (fun h => absurd h (by decide)) (fun _ => ?_)
  refine j_aloadn (k := 1) (D_Model_init 255 rfl) rfl rfl ?_
  refine j_getR (t := 135) rfl fa_Model_175 kd_81 (by decide) (by decide) rfl (fun _ => by decide +kernel) (by decide) (D_Model_init 256 rfl) ?_
  refine j_iloadn (k := 0) (D_Model_init 257 rfl) rfl rfl ?_
  refine j_bipush (v := (-2)) (D_Model_init 258 rfl) rfl ?_
  refine j_iast (NI := 120) (D_Model_init 259 rfl) kd_135 (by decide) (wr_lit rfl) rfl (by decide) (by decide) ?_
  refine j_iinc (k := 0) (x' := 1) (L' := [(1, vi 1), (0, rf X 81)]) (D_Model_init 260 rfl) rfl (by decide +kernel) (by decide) rfl ?_
  refine j_goto (tgt := 497) (D_Model_init 261 rfl) rfl ?_
  refine j_iloadn (k := 0) (D_Model_init 252 rfl) rfl rfl ?_
  refine j_bipush (v := 120) (D_Model_init 253 rfl) rfl ?_
  refine j_ic_ge (tgt := 517) (D_Model_init 254 rfl) rfl (wr_lit rfl) (wr_lit rfl) (fun h => absurd h (by decide)) (fun _ => ?_)
  refine j_aloadn (k := 1) (D_Model_init 255 rfl) rfl rfl ?_
  refine j_getR (t := 135) rfl fa_Model_175 kd_81 (by decide) (by decide) rfl (fun _ => by decide +kernel) (by decide) (D_Model_init 256 rfl) ?_
  refine j_iloadn (k := 0) (D_Model_init 257 rfl) rfl rfl ?_
  refine j_bipush (v := (-2)) (D_Model_init 258 rfl) rfl ?_
  refine j_iast (NI := 120) (D_Model_init 259 rfl) kd_135 (by decide) (wr_lit rfl) rfl (by decide) (by decide) ?_
  refine j_iinc (k := 0) (x' := 2) (L' := [(1, vi 2), (0, rf X 81)]) (D_Model_init 260 rfl) rfl (by decide +kernel) (by decide) rfl ?_
  refine j_goto (tgt := 497) (D_Model_init 261 rfl) rfl ?_
  refine j_iloadn (k := 0) (D_Model_init 252 rfl) rfl rfl ?_
  refine j_bipush (v := 120) (D_Model_init 253 rfl) rfl ?_
  refine j_ic_ge (tgt := 517) (D_Model_init 254 rfl) rfl (wr_lit rfl) (wr_lit rfl) (fun h => absurd h (by decide)) (fun _ => ?_)
  refine j_aloadn (k := 1) (D_Model_init 255 rfl) rfl rfl ?_
  refine j_getR (t := 135) rfl fa_Model_175 kd_81 (by decide) (by decide) rfl (fun _ => by decide +kernel) (by decide) (D_Model_init 256 rfl) ?_
  refine j_iloadn (k := 0) (D_Model_init 257 rfl) rfl rfl ?_
  refine j_bipush (v := (-2)) (D_Model_init 258 rfl) rfl ?_
  refine j_iast (NI := 120) (D_Model_init 259 rfl) kd_135 (by decide) (wr_lit rfl) rfl (by decide) (by decide) ?_
  refine j_iinc (k := 0) (x' := 3) (L' := [(1, vi 3), (0, rf X 81)]) (D_Model_init 260 rfl) rfl (by decide +kernel) (by decide) rfl ?_
  refine j_goto (tgt := 497) (D_Model_init 261 rfl) rfl ?_
  refine j_iloadn (k := 0) (D_Model_init 252 rfl) rfl rfl ?_
  refine j_bipush (v := 120) (D_Model_init 253 rfl) rfl ?_
  refine j_ic_ge (tgt := 517) (D_Model_init 254 rfl) rfl (wr_lit rfl) (wr_lit rfl) (fun h => absurd h (by decide)) (fun _ => ?_)
  refine j_aloadn (k := 1) (D_Model_init 255 rfl) rfl rfl ?_
  refine j_getR (t := 135) rfl fa_Model_175 kd_81 (by decide) (by decide) rfl (fun _ => by decide +kernel) (by decide) (D_Model_init 256 rfl) ?_
  refine j_iloadn (k := 0) (D_Model_init 257 rfl) rfl rfl ?_
  refine j_bipush (v := (-2)) (D_Model_init 258 rfl) rfl ?_
  refine j_iast (NI := 120) (D_Model_init 259 rfl) kd_135 (by decide) (wr_lit rfl) rfl (by decide) (by decide) ?_
  refine j_iinc (k := 0) (x' := 4) (L' := [(1, vi 4), (0, rf X 81)]) (D_Model_init 260 rfl) rfl (by decide +kernel) (by decide) rfl ?_
  refine j_goto (tgt := 497) (D_Model_init 261 rfl) rfl ?_
  refine j_iloadn (k := 0) (D_Model_init 252 rfl) rfl rfl ?_
  refine j_bipush (v := 120) (D_Model_init 253 rfl) rfl ?_
  refine j_ic_ge (tgt := 517) (D_Model_init 254 rfl) rfl (wr_lit rfl) (wr_lit rfl) (fun h => absurd h (by decide)) (fun _ => ?_)
  refine j_aloadn (k := 1) (D_Model_init 255 rfl) rfl rfl ?_
  refine j_getR (t := 135) rfl fa_Model_175 kd_81 (by decide) (by decide) rfl (fun _ => by decide +kernel) (by decide) (D_Model_init 256 rfl) ?_
  refine j_iloadn (k := 0) (D_Model_init 257 rfl) rfl rfl ?_
  refine j_bipush (v := (-2)) (D_Model_init 258 rfl) rfl ?_
  refine j_iast (NI := 120) (D_Model_init 259 rfl) kd_135 (by decide) (wr_lit rfl) rfl (by decide) (by decide) ?_
  refine j_iinc (k := 0) (x' := 5) (L' := [(1, vi 5), (0, rf X 81)]) (D_Model_init 260 rfl) rfl (by decide +kernel) (by decide) rfl ?_
  refine j_goto (tgt := 497) (D_Model_init 261 rfl) rfl ?_
  refine j_iloadn (k := 0) (D_Model_init 252 rfl) rfl rfl ?_
  refine j_bipush (v := 120) (D_Model_init 253 rfl) rfl ?_
  refine j_ic_ge (tgt := 517) (D_Model_init 254 rfl) rfl (wr_lit rfl) (wr_lit rfl) (fun h => absurd h (by decide)) (fun _ => ?_)
  refine j_aloadn (k := 1) (D_Model_init 255 rfl) rfl rfl ?_
  refine j_getR (t := 135) rfl fa_Model_175 kd_81 (by decide) (by decide) rfl (fun _ => by decide +kernel) (by decide) (D_Model_init 256 rfl) ?_
  refine j_iloadn (k := 0) (D_Model_init 257 rfl) rfl rfl ?_
  refine j_bipush (v := (-2)) (D_Model_init 258 rfl) rfl ?_
  refine j_iast (NI := 120) (D_Model_init 259 rfl) kd_135 (by decide) (wr_lit rfl) rfl (by decide) (by decide) ?_
  refine j_iinc (k := 0) (x' := 6) (L' := [(1, vi 6), (0, rf X 81)]) (D_Model_init 260 rfl) rfl (by decide +kernel) (by decide) rfl ?_
  refine j_goto (tgt := 497) (D_Model_init 261 rfl) rfl ?_
  refine j_iloadn (k := 0) (D_Model_init 252 rfl) rfl rfl ?_
  refine j_bipush (v := 120) (D_Model_init 253 rfl) rfl ?_
  refine j_ic_ge (tgt := 517) (D_Model_init 254 rfl) rfl (wr_lit rfl) (wr_lit rfl) (fun h => absurd h (by decide)) (fun _ => ?_)
  refine j_aloadn (k := 1) (D_Model_init 255 rfl) rfl rfl ?_
  refine j_getR (t := 135) rfl fa_Model_175 kd_81 (by decide) (by decide) rfl (fun _ => by decide +kernel) (by decide) (D_Model_init 256 rfl) ?_
  refine j_iloadn (k := 0) (D_Model_init 257 rfl) rfl rfl ?_
  refine j_bipush (v := (-2)) (D_Model_init 258 rfl) rfl ?_
  refine j_iast (NI := 120) (D_Model_init 259 rfl) kd_135 (by decide) (wr_lit rfl) rfl (by decide) (by decide) ?_
  refine j_iinc (k := 0) (x' := 7) (L' := [(1, vi 7), (0, rf X 81)]) (D_Model_init 260 rfl) rfl (by decide +kernel) (by decide) rfl ?_
  refine j_goto (tgt := 497) (D_Model_init 261 rfl) rfl ?_
  refine j_iloadn (k := 0) (D_Model_init 252 rfl) rfl rfl ?_
  refine j_bipush (v := 120) (D_Model_init 253 rfl) rfl ?_
  refine j_ic_ge (tgt := 517) (D_Model_init 254 rfl) rfl (wr_lit rfl) (wr_lit rfl) (fun h => absurd h (by decide)) (fun _ => ?_)
  refine j_aloadn (k := 1) (D_Model_init 255 rfl) rfl rfl ?_
  refine j_getR (t := 135) rfl fa_Model_175 kd_81 (by decide) (by decide) rfl (fun _ => by decide +kernel) (by decide) (D_Model_init 256 rfl) ?_
  refine j_iloadn (k := 0) (D_Model_init 257 rfl) rfl rfl ?_
  refine j_bipush (v := (-2)) (D_Model_init 258 rfl) rfl ?_
  refine j_iast (NI := 120) (D_Model_init 259 rfl) kd_135 (by decide) (wr_lit rfl) rfl (by decide) (by decide) ?_
  refine j_iinc (k := 0) (x' := 8) (L' := [(1, vi 8), (0, rf X 81)]) (D_Model_init 260 rfl) rfl (by decide +kernel) (by decide) rfl ?_
  refine j_goto (tgt := 497) (D_Model_init 261 rfl) rfl ?_
  refine j_iloadn (k := 0) (D_Model_init 252 rfl) rfl rfl ?_
  refine j_bipush (v := 120) (D_Model_init 253 rfl) rfl ?_
  refine j_ic_ge (tgt := 517) (D_Model_init 254 rfl) rfl (wr_lit rfl) (wr_lit rfl) (fun h => absurd h (by decide)) (fun _ => ?_)
  refine j_aloadn (k := 1) (D_Model_init 255 rfl) rfl rfl ?_
  refine j_getR (t := 135) rfl fa_Model_175 kd_81 (by decide) (by decide) rfl (fun _ => by decide +kernel) (by decide) (D_Model_init 256 rfl) ?_
  refine j_iloadn (k := 0) (D_Model_init 257 rfl) rfl rfl ?_
  refine j_bipush (v := (-2)) (D_Model_init 258 rfl) rfl ?_
  refine j_iast (NI := 120) (D_Model_init 259 rfl) kd_135 (by decide) (wr_lit rfl) rfl (by decide) (by decide) ?_
  refine j_iinc (k := 0) (x' := 9) (L' := [(1, vi 9), (0, rf X 81)]) (D_Model_init 260 rfl) rfl (by decide +kernel) (by decide) rfl ?_
  refine j_goto (tgt := 497) (D_Model_init 261 rfl) rfl ?_
  refine j_iloadn (k := 0) (D_Model_init 252 rfl) rfl rfl ?_
  refine j_bipush (v := 120) (D_Model_init 253 rfl) rfl ?_
  refine j_ic_ge (tgt := 517) (D_Model_init 254 rfl) rfl (wr_lit rfl) (wr_lit rfl) (fun h => absurd h (by decide)) (fun _ => ?_)
  refine j_aloadn (k := 1) (D_Model_init 255 rfl) rfl rfl ?_
  refine j_getR (t := 135) rfl fa_Model_175 kd_81 (by decide) (by decide) rfl (fun _ => by decide +kernel) (by decide) (D_Model_init 256 rfl) ?_
  refine j_iloadn (k := 0) (D_Model_init 257 rfl) rfl rfl ?_
  refine j_bipush (v := (-2)) (D_Model_init 258 rfl) rfl ?_
  refine j_iast (NI := 120) (D_Model_init 259 rfl) kd_135 (by decide) (wr_lit rfl) rfl (by decide) (by decide) ?_
  refine j_iinc (k := 0) (x' := 10) (L' := [(1, vi 10), (0, rf X 81)]) (D_Model_init 260 rfl) rfl (by decide +kernel) (by decide) rfl ?_
  refine j_goto (tgt := 497) (D_Model_init 261 rfl) rfl ?_
  refine j_iloadn (k := 0) (D_Model_init 252 rfl) rfl rfl ?_
  refine j_bipush (v := 120) (D_Model_init 253 rfl) rfl ?_
  refine j_ic_ge (tgt := 517) (D_Model_init 254 rfl) rfl (wr_lit rfl) (wr_lit rfl) (fun h => absurd h (by decide)) (fun _ => ?_)
  refine j_aloadn (k := 1) (D_Model_init 255 rfl) rfl rfl ?_
  refine j_getR (t := 135) rfl fa_Model_175 kd_81 (by decide) (by decide) rfl (fun _ => by decide +kernel) (by decide) (D_Model_init 256 rfl) ?_
  refine j_iloadn (k := 0) (D_Model_init 257 rfl) rfl rfl ?_
  refine j_bipush (v := (-2)) (D_Model_init 258 rfl) rfl ?_
  refine j_iast (NI := 120) (D_Model_init 259 rfl) kd_135 (by decide) (wr_lit rfl) rfl (by decide) (by decide) ?_
  refine j_iinc (k := 0) (x' := 11) (L' := [(1, vi 11), (0, rf X 81)]) (D_Model_init 260 rfl) rfl (by decide +kernel) (by decide) rfl ?_
  refine j_goto (tgt := 497) (D_Model_init 261 rfl) rfl ?_
  refine j_iloadn (k := 0) (D_Model_init 252 rfl) rfl rfl ?_
  refine j_bipush (v := 120) (D_Model_init 253 rfl) rfl ?_
  refine j_ic_ge (tgt := 517) (D_Model_init 254 rfl) rfl (wr_lit rfl) (wr_lit rfl) (fun h => absurd h (by decide)) (fun _ => ?_)
  refine j_aloadn (k := 1) (D_Model_init 255 rfl) rfl rfl ?_
  refine j_getR (t := 135) rfl fa_Model_175 kd_81 (by decide) (by decide) rfl (fun _ => by decide +kernel) (by decide) (D_Model_init 256 rfl) ?_
  refine j_iloadn (k := 0) (D_Model_init 257 rfl) rfl rfl ?_
  refine j_bipush (v := (-2)) (D_Model_init 258 rfl) rfl ?_
  refine j_iast (NI := 120) (D_Model_init 259 rfl) kd_135 (by decide) (wr_lit rfl) rfl (by decide) (by decide) ?_
  refine j_iinc (k := 0) (x' := 12) (L' := [(1, vi 12), (0, rf X 81)]) (D_Model_init 260 rfl) rfl (by decide +kernel) (by decide) rfl ?_
  refine j_goto (tgt := 497) (D_Model_init 261 rfl) rfl ?_
  refine j_iloadn (k := 0) (D_Model_init 252 rfl) rfl rfl ?_
  refine j_bipush (v := 120) (D_Model_init 253 rfl) rfl ?_
  refine j_ic_ge (tgt := 517) (D_Model_init 254 rfl) rfl (wr_lit rfl) (wr_lit rfl) (fun h => absurd h (by decide)) (fun _ => ?_)
  refine j_aloadn (k := 1) (D_Model_init 255 rfl) rfl rfl ?_
  refine j_getR (t := 135) rfl fa_Model_175 kd_81 (by decide) (by decide) rfl (fun _ => by decide +kernel) (by decide) (D_Model_init 256 rfl) ?_
  refine j_iloadn (k := 0) (D_Model_init 257 rfl) rfl rfl ?_
  refine j_bipush (v := (-2)) (D_Model_init 258 rfl) rfl ?_
  refine j_iast (NI := 120) (D_Model_init 259 rfl) kd_135 (by decide) (wr_lit rfl) rfl (by decide) (by decide) ?_
  refine j_iinc (k := 0) (x' := 13) (L' := [(1, vi 13), (0, rf X 81)]) (D_Model_init 260 rfl) rfl (by decide +kernel) (by decide) rfl ?_
  refine j_goto (tgt := 497) (D_Model_init 261 rfl) rfl ?_
  refine j_iloadn (k := 0) (D_Model_init 252 rfl) rfl rfl ?_
  refine j_bipush (v := 120) (D_Model_init 253 rfl) rfl ?_
  refine j_ic_ge (tgt := 517) (D_Model_init 254 rfl) rfl (wr_lit rfl) (wr_lit rfl) (fun h => absurd h (by decide)) (fun _ => ?_)
  refine j_aloadn (k := 1) (D_Model_init 255 rfl) rfl rfl ?_
  refine j_getR (t := 135) rfl fa_Model_175 kd_81 (by decide) (by decide) rfl (fun _ => by decide +kernel) (by decide) (D_Model_init 256 rfl) ?_
  refine j_iloadn (k := 0) (D_Model_init 257 rfl) rfl rfl ?_
  refine j_bipush (v := (-2)) (D_Model_init 258 rfl) rfl ?_
  refine j_iast (NI := 120) (D_Model_init 259 rfl) kd_135 (by decide) (wr_lit rfl) rfl (by decide) (by decide) ?_
  refine j_iinc (k := 0) (x' := 14) (L' := [(1, vi 14), (0, rf X 81)]) (D_Model_init 260 rfl) rfl (by decide +kernel) (by decide) rfl ?_
  refine j_goto (tgt := 497) (D_Model_init 261 rfl) rfl ?_
  refine j_iloadn (k := 0) (D_Model_init 252 rfl) rfl rfl ?_
  refine j_bipush (v := 120) (D_Model_init 253 rfl) rfl ?_
  refine j_ic_ge (tgt := 517) (D_Model_init 254 rfl) rfl (wr_lit rfl) (wr_lit rfl) (fun h => absurd h (by decide)) (fun _ => ?_)
  refine j_aloadn (k := 1) (D_Model_init 255 rfl) rfl rfl ?_
  refine j_getR (t := 135) rfl fa_Model_175 kd_81 (by decide) (by decide) rfl (fun _ => by decide +kernel) (by decide) (D_Model_init 256 rfl) ?_
  refine j_iloadn (k := 0) (D_Model_init 257 rfl) rfl rfl ?_
  refine j_bipush (v := (-2)) (D_Model_init 258 rfl) rfl ?_
  refine j_iast (NI := 120) (D_Model_init 259 rfl) kd_135 (by decide) (wr_lit rfl) rfl (by decide) (by decide) ?_
  refine j_iinc (k := 0) (x' := 15) (L' := [(1, vi 15), (0, rf X 81)]) (D_Model_init 260 rfl) rfl (by decide +kernel) (by decide) rfl ?_
  refine j_goto (tgt := 497) (D_Model_init 261 rfl) rfl ?_
  refine j_iloadn (k := 0) (D_Model_init 252 rfl) rfl rfl ?_
  refine j_bipush (v := 120) (D_Model_init 253 rfl) rfl ?_
  refine j_ic_ge (tgt := 517) (D_Model_init 254 rfl) rfl (wr_lit rfl) (wr_lit rfl) (fun h => absurd h (by decide)) (fun _ => ?_)
  refine j_aloadn (k := 1) (D_Model_init 255 rfl) rfl rfl ?_
  refine j_getR (t := 135) rfl fa_Model_175 kd_81 (by decide) (by decide) rfl (fun _ => by decide +kernel) (by decide) (D_Model_init 256 rfl) ?_
  refine j_iloadn (k := 0) (D_Model_init 257 rfl) rfl rfl ?_
  refine j_bipush (v := (-2)) (D_Model_init 258 rfl) rfl ?_
  refine j_iast (NI := 120) (D_Model_init 259 rfl) kd_135 (by decide) (wr_lit rfl) rfl (by decide) (by decide) ?_
  refine j_iinc (k := 0) (x' := 16) (L' := [(1, vi 16), (0, rf X 81)]) (D_Model_init 260 rfl) rfl (by decide +kernel) (by decide) rfl ?_
  refine j_goto (tgt := 497) (D_Model_init 261 rfl) rfl ?_
  refine j_iloadn (k := 0) (D_Model_init 252 rfl) rfl rfl ?_
  refine j_bipush (v := 120) (D_Model_init 253 rfl) rfl ?_
  refine j_ic_ge (tgt := 517) (D_Model_init 254 rfl) rfl (wr_lit rfl) (wr_lit rfl) (fun h => absurd h (by decide)) (fun _ => ?_)
  refine j_aloadn (k := 1) (D_Model_init 255 rfl) rfl rfl ?_
  refine j_getR (t := 135) rfl fa_Model_175 kd_81 (by decide) (by decide) rfl (fun _ => by decide +kernel) (by decide) (D_Model_init 256 rfl) ?_
  refine j_iloadn (k := 0) (D_Model_init 257 rfl) rfl rfl ?_
  refine j_bipush (v := (-2)) (D_Model_init 258 rfl) rfl ?_
  refine j_iast (NI := 120) (D_Model_init 259 rfl) kd_135 (by decide) (wr_lit rfl) rfl (by decide) (by decide) ?_
  refine j_iinc (k := 0) (x' := 17) (L' := [(1, vi 17), (0, rf X 81)]) (D_Model_init 260 rfl) rfl (by decide +kernel) (by decide) rfl ?_
  refine j_goto (tgt := 497) (D_Model_init 261 rfl) rfl ?_
  refine j_iloadn (k := 0) (D_Model_init 252 rfl) rfl rfl ?_
  refine j_bipush (v := 120) (D_Model_init 253 rfl) rfl ?_
  refine j_ic_ge (tgt := 517) (D_Model_init 254 rfl) rfl (wr_lit rfl) (wr_lit rfl) (fun h => absurd h (by decide)) (fun _ => ?_)
  refine j_aloadn (k := 1) (D_Model_init 255 rfl) rfl rfl ?_
  refine j_getR (t := 135) rfl fa_Model_175 kd_81 (by decide) (by decide) rfl (fun _ => by decide +kernel) (by decide) (D_Model_init 256 rfl) ?_
  refine j_iloadn (k := 0) (D_Model_init 257 rfl) rfl rfl ?_
  refine j_bipush (v := (-2)) (D_Model_init 258 rfl) rfl ?_
  refine j_iast (NI := 120) (D_Model_init 259 rfl) kd_135 (by decide) (wr_lit rfl) rfl (by decide) (by decide) ?_
  refine j_iinc (k := 0) (x' := 18) (L' := [(1, vi 18), (0, rf X 81)]) (D_Model_init 260 rfl) rfl (by decide +kernel) (by decide) rfl ?_
  refine j_goto (tgt := 497) (D_Model_init 261 rfl) rfl ?_
  refine j_iloadn (k := 0) (D_Model_init 252 rfl) rfl rfl ?_
  refine j_bipush (v := 120) (D_Model_init 253 rfl) rfl ?_
  refine j_ic_ge (tgt := 517) (D_Model_init 254 rfl) rfl (wr_lit rfl) (wr_lit rfl) (fun h => absurd h (by decide)) (fun _ => ?_)
  refine j_aloadn (k := 1) (D_Model_init 255 rfl) rfl rfl ?_
  refine j_getR (t := 135) rfl fa_Model_175 kd_81 (by decide) (by decide) rfl (fun _ => by decide +kernel) (by decide) (D_Model_init 256 rfl) ?_
  refine j_iloadn (k := 0) (D_Model_init 257 rfl) rfl rfl ?_
  refine j_bipush (v := (-2)) (D_Model_init 258 rfl) rfl ?_
  refine j_iast (NI := 120) (D_Model_init 259 rfl) kd_135 (by decide) (wr_lit rfl) rfl (by decide) (by decide) ?_
  refine j_iinc (k := 0) (x' := 19) (L' := [(1, vi 19), (0, rf X 81)]) (D_Model_init 260 rfl) rfl (by decide +kernel) (by decide) rfl ?_
  refine j_goto (tgt := 497) (D_Model_init 261 rfl) rfl ?_
  refine j_iloadn (k := 0) (D_Model_init 252 rfl) rfl rfl ?_
  refine j_bipush (v := 120) (D_Model_init 253 rfl) rfl ?_
  refine j_ic_ge (tgt := 517) (D_Model_init 254 rfl) rfl (wr_lit rfl) (wr_lit rfl) (fun h => absurd h (by decide)) (fun _ => ?_)
  refine j_aloadn (k := 1) (D_Model_init 255 rfl) rfl rfl ?_
  refine j_getR (t := 135) rfl fa_Model_175 kd_81 (by decide) (by decide) rfl (fun _ => by decide +kernel) (by decide) (D_Model_init 256 rfl) ?_
  refine j_iloadn (k := 0) (D_Model_init 257 rfl) rfl rfl ?_
  refine j_bipush (v := (-2)) (D_Model_init 258 rfl) rfl ?_
  refine j_iast (NI := 120) (D_Model_init 259 rfl) kd_135 (by decide) (wr_lit rfl) rfl (by decide) (by decide) ?_
  refine j_iinc (k := 0) (x' := 20) (L' := [(1, vi 20), (0, rf X 81)]) (D_Model_init 260 rfl) rfl (by decide +kernel) (by decide) rfl ?_
  refine j_goto (tgt := 497) (D_Model_init 261 rfl) rfl ?_
  refine j_iloadn (k := 0) (D_Model_init 252 rfl) rfl rfl ?_
  refine j_bipush (v := 120) (D_Model_init 253 rfl) rfl ?_
  refine j_ic_ge (tgt := 517) (D_Model_init 254 rfl) rfl (wr_lit rfl) (wr_lit rfl) (fun h => absurd h (by decide)) (fun _ => ?_)
  refine j_aloadn (k := 1) (D_Model_init 255 rfl) rfl rfl ?_
  refine j_getR (t := 135) rfl fa_Model_175 kd_81 (by decide) (by decide) rfl (fun _ => by decide +kernel) (by decide) (D_Model_init 256 rfl) ?_
  refine j_iloadn (k := 0) (D_Model_init 257 rfl) rfl rfl ?_
  refine j_bipush (v := (-2)) (D_Model_init 258 rfl) rfl ?_
  refine j_iast (NI := 120) (D_Model_init 259 rfl) kd_135 (by decide) (wr_lit rfl) rfl (by decide) (by decide) ?_
  refine j_iinc (k := 0) (x' := 21) (L' := [(1, vi 21), (0, rf X 81)]) (D_Model_init 260 rfl) rfl (by decide +kernel) (by decide) rfl ?_
  refine j_goto (tgt := 497) (D_Model_init 261 rfl) rfl ?_
  refine j_iloadn (k := 0) (D_Model_init 252 rfl) rfl rfl ?_
  refine j_bipush (v := 120) (D_Model_init 253 rfl) rfl ?_
  refine j_ic_ge (tgt := 517) (D_Model_init 254 rfl) rfl (wr_lit rfl) (wr_lit rfl) (fun h => absurd h (by decide)) (fun _ => ?_)
  refine j_aloadn (k := 1) (D_Model_init 255 rfl) rfl rfl ?_
  refine j_getR (t := 135) rfl fa_Model_175 kd_81 (by decide) (by decide) rfl (fun _ => by decide +kernel) (by decide) (D_Model_init 256 rfl) ?_
  refine j_iloadn (k := 0) (D_Model_init 257 rfl) rfl rfl ?_
  refine j_bipush (v := (-2)) (D_Model_init 258 rfl) rfl ?_
  refine j_iast (NI := 120) (D_Model_init 259 rfl) kd_135 (by decide) (wr_lit rfl) rfl (by decide) (by decide) ?_
  refine j_iinc (k := 0) (x' := 22) (L' := [(1, vi 22), (0, rf X 81)]) (D_Model_init 260 rfl) rfl (by decide +kernel) (by decide) rfl ?_
  refine j_goto (tgt := 497) (D_Model_init 261 rfl) rfl ?_
  refine j_iloadn (k := 0) (D_Model_init 252 rfl) rfl rfl ?_
  refine j_bipush (v := 120) (D_Model_init 253 rfl) rfl ?_
  refine j_ic_ge (tgt := 517) (D_Model_init 254 rfl) rfl (wr_lit rfl) (wr_lit rfl) (fun h => absurd h (by decide)) (fun _ => ?_)
  refine j_aloadn (k := 1) (D_Model_init 255 rfl) rfl rfl ?_
  refine j_getR (t := 135) rfl fa_Model_175 kd_81 (by decide) (by decide) rfl (fun _ => by decide +kernel) (by decide) (D_Model_init 256 rfl) ?_
  refine j_iloadn (k := 0) (D_Model_init 257 rfl) rfl rfl ?_
  refine j_bipush (v := (-2)) (D_Model_init 258 rfl) rfl ?_
  refine j_iast (NI := 120) (D_Model_init 259 rfl) kd_135 (by decide) (wr_lit rfl) rfl (by decide) (by decide) ?_
  refine j_iinc (k := 0) (x' := 23) (L' := [(1, vi 23), (0, rf X 81)]) (D_Model_init 260 rfl) rfl (by decide +kernel) (by decide) rfl ?_
  refine j_goto (tgt := 497) (D_Model_init 261 rfl) rfl ?_
  refine j_iloadn (k := 0) (D_Model_init 252 rfl) rfl rfl ?_
  refine j_bipush (v := 120) (D_Model_init 253 rfl) rfl ?_
  refine j_ic_ge (tgt := 517) (D_Model_init 254 rfl) rfl (wr_lit rfl) (wr_lit rfl) (fun h => absurd h (by decide)) (fun _ => ?_)
  refine j_aloadn (k := 1) (D_Model_init 255 rfl) rfl rfl ?_
  refine j_getR (t := 135) rfl fa_Model_175 kd_81 (by decide) (by decide) rfl (fun _ => by decide +kernel) (by decide) (D_Model_init 256 rfl) ?_
  refine j_iloadn (k := 0) (D_Model_init 257 rfl) rfl rfl ?_
  refine j_bipush (v := (-2)) (D_Model_init 258 rfl) rfl ?_
  refine j_iast (NI := 120) (D_Model_init 259 rfl) kd_135 (by decide) (wr_lit rfl) rfl (by decide) (by decide) ?_
  refine j_iinc (k := 0) (x' := 24) (L' := [(1, vi 24), (0, rf X 81)]) (D_Model_init 260 rfl) rfl (by decide +kernel) (by decide) rfl ?_
  refine j_goto (tgt := 497) (D_Model_init 261 rfl) rfl ?_
  refine j_iloadn (k := 0) (D_Model_init 252 rfl) rfl rfl ?_
  refine j_bipush (v := 120) (D_Model_init 253 rfl) rfl ?_
  refine j_ic_ge (tgt := 517) (D_Model_init 254 rfl) rfl (wr_lit rfl) (wr_lit rfl) (fun h => absurd h (by decide)) (fun _ => ?_)
  refine j_aloadn (k := 1) (D_Model_init 255 rfl) rfl rfl ?_
  refine j_getR (t := 135) rfl fa_Model_175 kd_81 (by decide) (by decide) rfl (fun _ => by decide +kernel) (by decide) (D_Model_init 256 rfl) ?_
  refine j_iloadn (k := 0) (D_Model_init 257 rfl) rfl rfl ?_
  refine j_bipush (v := (-2)) (D_Model_init 258 rfl) rfl ?_
  refine j_iast (NI := 120) (D_Model_init 259 rfl) kd_135 (by decide) (wr_lit rfl) rfl (by decide) (by decide) ?_
  refine j_iinc (k := 0) (x' := 25) (L' := [(1, vi 25), (0, rf X 81)]) (D_Model_init 260 rfl) rfl (by decide +kernel) (by decide) rfl ?_
  refine j_goto (tgt := 497) (D_Model_init 261 rfl) rfl ?_
  refine j_iloadn (k := 0) (D_Model_init 252 rfl) rfl rfl ?_
  refine j_bipush (v := 120) (D_Model_init 253 rfl) rfl ?_
  refine j_ic_ge (tgt := 517) (D_Model_init 254 rfl) rfl (wr_lit rfl) (wr_lit rfl) (fun h => absurd h (by decide)) (fun _ => ?_)
  refine j_aloadn (k := 1) (D_Model_init 255 rfl) rfl rfl ?_
  refine j_getR (t := 135) rfl fa_Model_175 kd_81 (by decide) (by decide) rfl (fun _ => by decide +kernel) (by decide) (D_Model_init 256 rfl) ?_
  refine j_iloadn (k := 0) (D_Model_init 257 rfl) rfl rfl ?_
  refine j_bipush (v := (-2)) (D_Model_init 258 rfl) rfl ?_
  refine j_iast (NI := 120) (D_Model_init 259 rfl) kd_135 (by decide) (wr_lit rfl) rfl (by decide) (by decide) ?_
  refine j_iinc (k := 0) (x' := 26) (L' := [(1, vi 26), (0, rf X 81)]) (D_Model_init 260 rfl) rfl (by decide +kernel) (by decide) rfl ?_
  refine j_goto (tgt := 497) (D_Model_init 261 rfl) rfl ?_
  refine j_iloadn (k := 0) (D_Model_init 252 rfl) rfl rfl ?_
  refine j_bipush (v := 120) (D_Model_init 253 rfl) rfl ?_
  refine j_ic_ge (tgt := 517) (D_Model_init 254 rfl) rfl (wr_lit rfl) (wr_lit rfl) (fun h => absurd h (by decide)) (fun _ => ?_)
  refine j_aloadn (k := 1) (D_Model_init 255 rfl) rfl rfl ?_
  refine j_getR (t := 135) rfl fa_Model_175 kd_81 (by decide) (by decide) rfl (fun _ => by decide +kernel) (by decide) (D_Model_init 256 rfl) ?_
  refine j_iloadn (k := 0) (D_Model_init 257 rfl) rfl rfl ?_
  refine j_bipush (v := (-2)) (D_Model_init 258 rfl) rfl ?_
  refine j_iast (NI := 120) (D_Model_init 259 rfl) kd_135 (by decide) (wr_lit rfl) rfl (by decide) (by decide) ?_
  refine j_iinc (k := 0) (x' := 27) (L' := [(1, vi 27), (0, rf X 81)]) (D_Model_init 260 rfl) rfl (by decide +kernel) (by decide) rfl ?_
  refine j_goto (tgt := 497) (D_Model_init 261 rfl) rfl ?_
  refine j_iloadn (k := 0) (D_Model_init 252 rfl) rfl rfl ?_
  refine j_bipush (v := 120) (D_Model_init 253 rfl) rfl ?_
  refine j_ic_ge (tgt := 517) (D_Model_init 254 rfl) rfl (wr_lit rfl) (wr_lit rfl) (fun h => absurd h (by decide)) (fun _ => ?_)
  refine j_aloadn (k := 1) (D_Model_init 255 rfl) rfl rfl ?_
  refine j_getR (t := 135) rfl fa_Model_175 kd_81 (by decide) (by decide) rfl (fun _ => by decide +kernel) (by decide) (D_Model_init 256 rfl) ?_
  refine j_iloadn (k := 0) (D_Model_init 257 rfl) rfl rfl ?_
  refine j_bipush (v := (-2)) (D_Model_init 258 rfl) rfl ?_
  refine j_iast (NI := 120) (D_Model_init 259 rfl) kd_135 (by decide) (wr_lit rfl) rfl (by decide) (by decide) ?_
  refine j_iinc (k := 0) (x' := 28) (L' := [(1, vi 28), (0, rf X 81)]) (D_Model_init 260 rfl) rfl (by decide +kernel) (by decide) rfl ?_
  refine j_goto (tgt := 497) (D_Model_init 261 rfl) rfl ?_
  refine j_iloadn (k := 0) (D_Model_init 252 rfl) rfl rfl ?_
  refine j_bipush (v := 120) (D_Model_init 253 rfl) rfl ?_
  refine j_ic_ge (tgt := 517) (D_Model_init 254 rfl) rfl (wr_lit rfl) (wr_lit rfl) (fun h => absurd h (by decide)) (fun _ => ?_)
  refine j_aloadn (k := 1) (D_Model_init 255 rfl) rfl rfl ?_
  refine j_getR (t := 135) rfl fa_Model_175 kd_81 (by decide) (by decide) rfl (fun _ => by decide +kernel) (by decide) (D_Model_init 256 rfl) ?_
  refine j_iloadn (k := 0) (D_Model_init 257 rfl) rfl rfl ?_
  refine j_bipush (v := (-2)) (D_Model_init 258 rfl) rfl ?_
  refine j_iast (NI := 120) (D_Model_init 259 rfl) kd_135 (by decide) (wr_lit rfl) rfl (by decide) (by decide) ?_
  refine j_iinc (k := 0) (x' := 29) (L' := [(1, vi 29), (0, rf X 81)]) (D_Model_init 260 rfl) rfl (by decide +kernel) (by decide) rfl ?_
  refine j_goto (tgt := 497) (D_Model_init 261 rfl) rfl ?_
  refine j_iloadn (k := 0) (D_Model_init 252 rfl) rfl rfl ?_
  refine j_bipush (v := 120) (D_Model_init 253 rfl) rfl ?_
  refine j_ic_ge (tgt := 517) (D_Model_init 254 rfl) rfl (wr_lit rfl) (wr_lit rfl) (fun h => absurd h (by decide)) (fun _ => ?_)
  refine j_aloadn (k := 1) (D_Model_init 255 rfl) rfl rfl ?_
  refine j_getR (t := 135) rfl fa_Model_175 kd_81 (by decide) (by decide) rfl (fun _ => by decide +kernel) (by decide) (D_Model_init 256 rfl) ?_
  refine j_iloadn (k := 0) (D_Model_init 257 rfl) rfl rfl ?_
  refine j_bipush (v := (-2)) (D_Model_init 258 rfl) rfl ?_
  refine j_iast (NI := 120) (D_Model_init 259 rfl) kd_135 (by decide) (wr_lit rfl) rfl (by decide) (by decide) ?_
  refine j_iinc (k := 0) (x' := 30) (L' := [(1, vi 30), (0, rf X 81)]) (D_Model_init 260 rfl) rfl (by decide +kernel) (by decide) rfl ?_
  refine j_goto (tgt := 497) (D_Model_init 261 rfl) rfl ?_
  refine j_iloadn (k := 0) (D_Model_init 252 rfl) rfl rfl ?_
  refine j_bipush (v := 120) (D_Model_init 253 rfl) rfl ?_
  refine j_ic_ge (tgt := 517) (D_Model_init 254 rfl) rfl (wr_lit rfl) (wr_lit rfl) (fun h => absurd h (by decide)) (fun _ => ?_)
  refine j_aloadn (k := 1) (D_Model_init 255 rfl) rfl rfl ?_
  refine j_getR (t := 135) rfl fa_Model_175 kd_81 (by decide) (by decide) rfl (fun _ => by decide +kernel) (by decide) (D_Model_init 256 rfl) ?_
  refine j_iloadn (k := 0) (D_Model_init 257 rfl) rfl rfl ?_
  refine j_bipush (v := (-2)) (D_Model_init 258 rfl) rfl ?_
  refine j_iast (NI := 120) (D_Model_init 259 rfl) kd_135 (by decide) (wr_lit rfl) rfl (by decide) (by decide) ?_
  refine j_iinc (k := 0) (x' := 31) (L' := [(1, vi 31), (0, rf X 81)]) (D_Model_init 260 rfl) rfl (by decide +kernel) (by decide) rfl ?_
  refine j_goto (tgt := 497) (D_Model_init 261 rfl) rfl ?_
  refine j_iloadn (k := 0) (D_Model_init 252 rfl) rfl rfl ?_
  refine j_bipush (v := 120) (D_Model_init 253 rfl) rfl ?_
  refine j_ic_ge (tgt := 517) (D_Model_init 254 rfl) rfl (wr_lit rfl) (wr_lit rfl) (fun h => absurd h (by decide)) (fun _ => ?_)
  refine j_aloadn (k := 1) (D_Model_init 255 rfl) rfl rfl ?_
  refine j_getR (t := 135) rfl fa_Model_175 kd_81 (by decide) (by decide) rfl (fun _ => by decide +kernel) (by decide) (D_Model_init 256 rfl) ?_
  refine j_iloadn (k := 0) (D_Model_init 257 rfl) rfl rfl ?_
  refine j_bipush (v := (-2)) (D_Model_init 258 rfl) rfl ?_
  refine j_iast (NI := 120) (D_Model_init 259 rfl) kd_135 (by decide) (wr_lit rfl) rfl (by decide) (by decide) ?_
  refine j_iinc (k := 0) (x' := 32) (L' := [(1, vi 32), (0, rf X 81)]) (D_Model_init 260 rfl) rfl (by decide +kernel) (by decide) rfl ?_
  refine j_goto (tgt := 497) (D_Model_init 261 rfl) rfl ?_
  refine j_iloadn (k := 0) (D_Model_init 252 rfl) rfl rfl ?_
  refine j_bipush (v := 120) (D_Model_init 253 rfl) rfl ?_
  refine j_ic_ge (tgt := 517) (D_Model_init 254 rfl) rfl (wr_lit rfl) (wr_lit rfl) (fun h => absurd h (by decide)) (fun _ => ?_)
  refine j_aloadn (k := 1) (D_Model_init 255 rfl) rfl rfl ?_
  refine j_getR (t := 135) rfl fa_Model_175 kd_81 (by decide) (by decide) rfl (fun _ => by decide +kernel) (by decide) (D_Model_init 256 rfl) ?_
  refine j_iloadn (k := 0) (D_Model_init 257 rfl) rfl rfl ?_
  refine j_bipush (v := (-2)) (D_Model_init 258 rfl) rfl ?_
  refine j_iast (NI := 120) (D_Model_init 259 rfl) kd_135 (by decide) (wr_lit rfl) rfl (by decide) (by decide) ?_
  refine j_iinc (k := 0) (x' := 33) (L' := [(1, vi 33), (0, rf X 81)]) (D_Model_init 260 rfl) rfl (by decide +kernel) (by decide) rfl ?_
  refine j_goto (tgt := 497) (D_Model_init 261 rfl) rfl ?_
  refine j_iloadn (k := 0) (D_Model_init 252 rfl) rfl rfl ?_
  refine j_bipush (v := 120) (D_Model_init 253 rfl) rfl ?_
  refine j_ic_ge (tgt := 517) (D_Model_init 254 rfl) rfl (wr_lit rfl) (wr_lit rfl) (fun h => absurd h (by decide)) (fun _ => ?_)
  refine j_aloadn (k := 1) (D_Model_init 255 rfl) rfl rfl ?_
  refine j_getR (t := 135) rfl fa_Model_175 kd_81 (by decide) (by decide) rfl (fun _ => by decide +kernel) (by decide) (D_Model_init 256 rfl) ?_
  refine j_iloadn (k := 0) (D_Model_init 257 rfl) rfl rfl ?_
  refine j_bipush (v := (-2)) (D_Model_init 258 rfl) rfl ?_
  refine j_iast (NI := 120) (D_Model_init 259 rfl) kd_135 (by decide) (wr_lit rfl) rfl (by decide) (by decide) ?_
  refine j_iinc (k := 0) (x' := 34) (L' := [(1, vi 34), (0, rf X 81)]) (D_Model_init 260 rfl) rfl (by decide +kernel) (by decide) rfl ?_
  refine j_goto (tgt := 497) (D_Model_init 261 rfl) rfl ?_
  refine j_iloadn (k := 0) (D_Model_init 252 rfl) rfl rfl ?_
  refine j_bipush (v := 120) (D_Model_init 253 rfl) rfl ?_
  refine j_ic_ge (tgt := 517) (D_Model_init 254 rfl) rfl (wr_lit rfl) (wr_lit rfl) (fun h => absurd h (by decide)) (fun _ => ?_)
  refine j_aloadn (k := 1) (D_Model_init 255 rfl) rfl rfl ?_
  refine j_getR (t := 135) rfl fa_Model_175 kd_81 (by decide) (by decide) rfl (fun _ => by decide +kernel) (by decide) (D_Model_init 256 rfl) ?_
  refine j_iloadn (k := 0) (D_Model_init 257 rfl) rfl rfl ?_
  refine j_bipush (v := (-2)) (D_Model_init 258 rfl) rfl ?_
  refine j_iast (NI := 120) (D_Model_init 259 rfl) kd_135 (by decide) (wr_lit rfl) rfl (by decide) (by decide) ?_
  refine j_iinc (k := 0) (x' := 35) (L' := [(1, vi 35), (0, rf X 81)]) (D_Model_init 260 rfl) rfl (by decide +kernel) (by decide) rfl ?_
  refine j_goto (tgt := 497) (D_Model_init 261 rfl) rfl ?_
  refine j_iloadn (k := 0) (D_Model_init 252 rfl) rfl rfl ?_
  refine j_bipush (v := 120) (D_Model_init 253 rfl) rfl ?_
  refine j_ic_ge (tgt := 517) (D_Model_init 254 rfl) rfl (wr_lit rfl) (wr_lit rfl) (fun h => absurd h (by decide)) (fun _ => ?_)
  refine j_aloadn (k := 1) (D_Model_init 255 rfl) rfl rfl ?_
  refine j_getR (t := 135) rfl fa_Model_175 kd_81 (by decide) (by decide) rfl (fun _ => by decide +kernel) (by decide) (D_Model_init 256 rfl) ?_
  refine j_iloadn (k := 0) (D_Model_init 257 rfl) rfl rfl ?_
  refine j_bipush (v := (-2)) (D_Model_init 258 rfl) rfl ?_
  refine j_iast (NI := 120) (D_Model_init 259 rfl) kd_135 (by decide) (wr_lit rfl) rfl (by decide) (by decide) ?_
  refine j_iinc (k := 0) (x' := 36) (L' := [(1, vi 36), (0, rf X 81)]) (D_Model_init 260 rfl) rfl (by decide +kernel) (by decide) rfl ?_
  refine j_goto (tgt := 497) (D_Model_init 261 rfl) rfl ?_
  refine j_iloadn (k := 0) (D_Model_init 252 rfl) rfl rfl ?_
  refine j_bipush (v := 120) (D_Model_init 253 rfl) rfl ?_
  refine j_ic_ge (tgt := 517) (D_Model_init 254 rfl) rfl (wr_lit rfl) (wr_lit rfl) (fun h => absurd h (by decide)) (fun _ => ?_)
  refine j_aloadn (k := 1) (D_Model_init 255 rfl) rfl rfl ?_
  refine j_getR (t := 135) rfl fa_Model_175 kd_81 (by decide) (by decide) rfl (fun _ => by decide +kernel) (by decide) (D_Model_init 256 rfl) ?_
  refine j_iloadn (k := 0) (D_Model_init 257 rfl) rfl rfl ?_
  refine j_bipush (v := (-2)) (D_Model_init 258 rfl) rfl ?_
  refine j_iast (NI := 120) (D_Model_init 259 rfl) kd_135 (by decide) (wr_lit rfl) rfl (by decide) (by decide) ?_
  refine j_iinc (k := 0) (x' := 37) (L' := [(1, vi 37), (0, rf X 81)]) (D_Model_init 260 rfl) rfl (by decide +kernel) (by decide) rfl ?_
  refine j_goto (tgt := 497) (D_Model_init 261 rfl) rfl ?_
  refine j_iloadn (k := 0) (D_Model_init 252 rfl) rfl rfl ?_
  refine j_bipush (v := 120) (D_Model_init 253 rfl) rfl ?_
  refine j_ic_ge (tgt := 517) (D_Model_init 254 rfl) rfl (wr_lit rfl) (wr_lit rfl) (fun h => absurd h (by decide)) (fun _ => ?_)
  refine j_aloadn (k := 1) (D_Model_init 255 rfl) rfl rfl ?_
  refine j_getR (t := 135) rfl fa_Model_175 kd_81 (by decide) (by decide) rfl (fun _ => by decide +kernel) (by decide) (D_Model_init 256 rfl) ?_
  refine j_iloadn (k := 0) (D_Model_init 257 rfl) rfl rfl ?_
  refine j_bipush (v := (-2)) (D_Model_init 258 rfl) rfl ?_
  refine j_iast (NI := 120) (D_Model_init 259 rfl) kd_135 (by decide) (wr_lit rfl) rfl (by decide) (by decide) ?_
  refine j_iinc (k := 0) (x' := 38) (L' := [(1, vi 38), (0, rf X 81)]) (D_Model_init 260 rfl) rfl (by decide +kernel) (by decide) rfl ?_
  refine j_goto (tgt := 497) (D_Model_init 261 rfl) rfl ?_
  refine j_iloadn (k := 0) (D_Model_init 252 rfl) rfl rfl ?_
  refine j_bipush (v := 120) (D_Model_init 253 rfl) rfl ?_
  refine j_ic_ge (tgt := 517) (D_Model_init 254 rfl) rfl (wr_lit rfl) (wr_lit rfl) (fun h => absurd h (by decide)) (fun _ => ?_)
  refine j_aloadn (k := 1) (D_Model_init 255 rfl) rfl rfl ?_
  refine j_getR (t := 135) rfl fa_Model_175 kd_81 (by decide) (by decide) rfl (fun _ => by decide +kernel) (by decide) (D_Model_init 256 rfl) ?_
  refine j_iloadn (k := 0) (D_Model_init 257 rfl) rfl rfl ?_
  refine j_bipush (v := (-2)) (D_Model_init 258 rfl) rfl ?_
  refine j_iast (NI := 120) (D_Model_init 259 rfl) kd_135 (by decide) (wr_lit rfl) rfl (by decide) (by decide) ?_
  refine j_iinc (k := 0) (x' := 39) (L' := [(1, vi 39), (0, rf X 81)]) (D_Model_init 260 rfl) rfl (by decide +kernel) (by decide) rfl ?_
  refine j_goto (tgt := 497) (D_Model_init 261 rfl) rfl ?_
  refine j_iloadn (k := 0) (D_Model_init 252 rfl) rfl rfl ?_
  refine j_bipush (v := 120) (D_Model_init 253 rfl) rfl ?_
  refine j_ic_ge (tgt := 517) (D_Model_init 254 rfl) rfl (wr_lit rfl) (wr_lit rfl) (fun h => absurd h (by decide)) (fun _ => ?_)
  refine j_aloadn (k := 1) (D_Model_init 255 rfl) rfl rfl ?_
  refine j_getR (t := 135) rfl fa_Model_175 kd_81 (by decide) (by decide) rfl (fun _ => by decide +kernel) (by decide) (D_Model_init 256 rfl) ?_
  refine j_iloadn (k := 0) (D_Model_init 257 rfl) rfl rfl ?_
  refine j_bipush (v := (-2)) (D_Model_init 258 rfl) rfl ?_
  refine j_iast (NI := 120) (D_Model_init 259 rfl) kd_135 (by decide) (wr_lit rfl) rfl (by decide) (by decide) ?_
  refine j_iinc (k := 0) (x' := 40) (L' := [(1, vi 40), (0, rf X 81)]) (D_Model_init 260 rfl) rfl (by decide +kernel) (by decide) rfl ?_
  refine j_goto (tgt := 497) (D_Model_init 261 rfl) rfl ?_
  refine j_iloadn (k := 0) (D_Model_init 252 rfl) rfl rfl ?_
  refine j_bipush (v := 120) (D_Model_init 253 rfl) rfl ?_
  refine j_ic_ge (tgt := 517) (D_Model_init 254 rfl) rfl (wr_lit rfl) (wr_lit rfl) (fun h => absurd h (by decide)) (fun _ => ?_)
  refine j_aloadn (k := 1) (D_Model_init 255 rfl) rfl rfl ?_
  refine j_getR (t := 135) rfl fa_Model_175 kd_81 (by decide) (by decide) rfl (fun _ => by decide +kernel) (by decide) (D_Model_init 256 rfl) ?_
  refine j_iloadn (k := 0) (D_Model_init 257 rfl) rfl rfl ?_
  refine j_bipush (v := (-2)) (D_Model_init 258 rfl) rfl ?_
  refine j_iast (NI := 120) (D_Model_init 259 rfl) kd_135 (by decide) (wr_lit rfl) rfl (by decide) (by decide) ?_
  refine j_iinc (k := 0) (x' := 41) (L' := [(1, vi 41), (0, rf X 81)]) (D_Model_init 260 rfl) rfl (by decide +kernel) (by decide) rfl ?_
  refine j_goto (tgt := 497) (D_Model_init 261 rfl) rfl ?_
  refine j_iloadn (k := 0) (D_Model_init 252 rfl) rfl rfl ?_
  refine j_bipush (v := 120) (D_Model_init 253 rfl) rfl ?_
  refine j_ic_ge (tgt := 517) (D_Model_init 254 rfl) rfl (wr_lit rfl) (wr_lit rfl) (fun h => absurd h (by decide)) (fun _ => ?_)
  refine j_aloadn (k := 1) (D_Model_init 255 rfl) rfl rfl ?_
  refine j_getR (t := 135) rfl fa_Model_175 kd_81 (by decide) (by decide) rfl (fun _ => by decide +kernel) (by decide) (D_Model_init 256 rfl) ?_
  refine j_iloadn (k := 0) (D_Model_init 257 rfl) rfl rfl ?_
  refine j_bipush (v := (-2)) (D_Model_init 258 rfl) rfl ?_
  refine j_iast (NI := 120) (D_Model_init 259 rfl) kd_135 (by decide) (wr_lit rfl) rfl (by decide) (by decide) ?_
  refine j_iinc (k := 0) (x' := 42) (L' := [(1, vi 42), (0, rf X 81)]) (D_Model_init 260 rfl) rfl (by decide +kernel) (by decide) rfl ?_
  refine j_goto (tgt := 497) (D_Model_init 261 rfl) rfl ?_
  refine j_iloadn (k := 0) (D_Model_init 252 rfl) rfl rfl ?_
  refine j_bipush (v := 120) (D_Model_init 253 rfl) rfl ?_
  refine j_ic_ge (tgt := 517) (D_Model_init 254 rfl) rfl (wr_lit rfl) (wr_lit rfl) (fun h => absurd h (by decide)) (fun _ => ?_)
  refine j_aloadn (k := 1) (D_Model_init 255 rfl) rfl rfl ?_
  refine j_getR (t := 135) rfl fa_Model_175 kd_81 (by decide) (by decide) rfl (fun _ => by decide +kernel) (by decide) (D_Model_init 256 rfl) ?_
  refine j_iloadn (k := 0) (D_Model_init 257 rfl) rfl rfl ?_
  refine j_bipush (v := (-2)) (D_Model_init 258 rfl) rfl ?_
  refine j_iast (NI := 120) (D_Model_init 259 rfl) kd_135 (by decide) (wr_lit rfl) rfl (by decide) (by decide) ?_
  refine j_iinc (k := 0) (x' := 43) (L' := [(1, vi 43), (0, rf X 81)]) (D_Model_init 260 rfl) rfl (by decide +kernel) (by decide) rfl ?_
  refine j_goto (tgt := 497) (D_Model_init 261 rfl) rfl ?_
  refine j_iloadn (k := 0) (D_Model_init 252 rfl) rfl rfl ?_
  refine j_bipush (v := 120) (D_Model_init 253 rfl) rfl ?_
  refine j_ic_ge (tgt := 517) (D_Model_init 254 rfl) rfl (wr_lit rfl) (wr_lit rfl) (fun h => absurd h (by decide)) (fun _ => ?_)
  refine j_aloadn (k := 1) (D_Model_init 255 rfl) rfl rfl ?_
  refine j_getR (t := 135) rfl fa_Model_175 kd_81 (by decide) (by decide) rfl (fun _ => by decide +kernel) (by decide) (D_Model_init 256 rfl) ?_
  refine j_iloadn (k := 0) (D_Model_init 257 rfl) rfl rfl ?_
  refine j_bipush (v := (-2)) (D_Model_init 258 rfl) rfl ?_
  refine j_iast (NI := 120) (D_Model_init 259 rfl) kd_135 (by decide) (wr_lit rfl) rfl (by decide) (by decide) ?_
  refine j_iinc (k := 0) (x' := 44) (L' := [(1, vi 44), (0, rf X 81)]) (D_Model_init 260 rfl) rfl (by decide +kernel) (by decide) rfl ?_
  refine j_goto (tgt := 497) (D_Model_init 261 rfl) rfl ?_
  refine j_iloadn (k := 0) (D_Model_init 252 rfl) rfl rfl ?_
  refine j_bipush (v := 120) (D_Model_init 253 rfl) rfl ?_
  refine j_ic_ge (tgt := 517) (D_Model_init 254 rfl) rfl (wr_lit rfl) (wr_lit rfl) (fun h => absurd h (by decide)) (fun _ => ?_)
  refine j_aloadn (k := 1) (D_Model_init 255 rfl) rfl rfl ?_
  refine j_getR (t := 135) rfl fa_Model_175 kd_81 (by decide) (by decide) rfl (fun _ => by decide +kernel) (by decide) (D_Model_init 256 rfl) ?_
  refine j_iloadn (k := 0) (D_Model_init 257 rfl) rfl rfl ?_
  refine j_bipush (v := (-2)) (D_Model_init 258 rfl) rfl ?_
  refine j_iast (NI := 120) (D_Model_init 259 rfl) kd_135 (by decide) (wr_lit rfl) rfl (by decide) (by decide) ?_
  refine j_iinc (k := 0) (x' := 45) (L' := [(1, vi 45), (0, rf X 81)]) (D_Model_init 260 rfl) rfl (by decide +kernel) (by decide) rfl ?_
  refine j_goto (tgt := 497) (D_Model_init 261 rfl) rfl ?_
  refine j_iloadn (k := 0) (D_Model_init 252 rfl) rfl rfl ?_
  refine j_bipush (v := 120) (D_Model_init 253 rfl) rfl ?_
  refine j_ic_ge (tgt := 517) (D_Model_init 254 rfl) rfl (wr_lit rfl) (wr_lit rfl) (fun h => absurd h (by decide)) (fun _ => ?_)
  refine j_aloadn (k := 1) (D_Model_init 255 rfl) rfl rfl ?_
  refine j_getR (t := 135) rfl fa_Model_175 kd_81 (by decide) (by decide) rfl (fun _ => by decide +kernel) (by decide) (D_Model_init 256 rfl) ?_
  refine j_iloadn (k := 0) (D_Model_init 257 rfl) rfl rfl ?_
  refine j_bipush (v := (-2)) (D_Model_init 258 rfl) rfl ?_
  refine j_iast (NI := 120) (D_Model_init 259 rfl) kd_135 (by decide) (wr_lit rfl) rfl (by decide) (by decide) ?_
  refine j_iinc (k := 0) (x' := 46) (L' := [(1, vi 46), (0, rf X 81)]) (D_Model_init 260 rfl) rfl (by decide +kernel) (by decide) rfl ?_
  refine j_goto (tgt := 497) (D_Model_init 261 rfl) rfl ?_
  refine j_iloadn (k := 0) (D_Model_init 252 rfl) rfl rfl ?_
  refine j_bipush (v := 120) (D_Model_init 253 rfl) rfl ?_
  refine j_ic_ge (tgt := 517) (D_Model_init 254 rfl) rfl (wr_lit rfl) (wr_lit rfl) (fun h => absurd h (by decide)) (fun _ => ?_)
  refine j_aloadn (k := 1) (D_Model_init 255 rfl) rfl rfl ?_
  refine j_getR (t := 135) rfl fa_Model_175 kd_81 (by decide) (by decide) rfl (fun _ => by decide +kernel) (by decide) (D_Model_init 256 rfl) ?_
  refine j_iloadn (k := 0) (D_Model_init 257 rfl) rfl rfl ?_
  refine j_bipush (v := (-2)) (D_Model_init 258 rfl) rfl ?_
  refine j_iast (NI := 120) (D_Model_init 259 rfl) kd_135 (by decide) (wr_lit rfl) rfl (by decide) (by decide) ?_
  refine j_iinc (k := 0) (x' := 47) (L' := [(1, vi 47), (0, rf X 81)]) (D_Model_init 260 rfl) rfl (by decide +kernel) (by decide) rfl ?_
  refine j_goto (tgt := 497) (D_Model_init 261 rfl) rfl ?_
  refine j_iloadn (k := 0) (D_Model_init 252 rfl) rfl rfl ?_
  refine j_bipush (v := 120) (D_Model_init 253 rfl) rfl ?_
  refine j_ic_ge (tgt := 517) (D_Model_init 254 rfl) rfl (wr_lit rfl) (wr_lit rfl) (fun h => absurd h (by decide)) (fun _ => ?_)
  refine j_aloadn (k := 1) (D_Model_init 255 rfl) rfl rfl ?_
  refine j_getR (t := 135) rfl fa_Model_175 kd_81 (by decide) (by decide) rfl (fun _ => by decide +kernel) (by decide) (D_Model_init 256 rfl) ?_
  refine j_iloadn (k := 0) (D_Model_init 257 rfl) rfl rfl ?_
  refine j_bipush (v := (-2)) (D_Model_init 258 rfl) rfl ?_
  refine j_iast (NI := 120) (D_Model_init 259 rfl) kd_135 (by decide) (wr_lit rfl) rfl (by decide) (by decide) ?_
  refine j_iinc (k := 0) (x' := 48) (L' := [(1, vi 48), (0, rf X 81)]) (D_Model_init 260 rfl) rfl (by decide +kernel) (by decide) rfl ?_
  refine j_goto (tgt := 497) (D_Model_init 261 rfl) rfl ?_
  refine j_iloadn (k := 0) (D_Model_init 252 rfl) rfl rfl ?_
  refine j_bipush (v := 120) (D_Model_init 253 rfl) rfl ?_
  refine j_ic_ge (tgt := 517) (D_Model_init 254 rfl) rfl (wr_lit rfl) (wr_lit rfl) (fun h => absurd h (by decide)) (fun _ => ?_)
  refine j_aloadn (k := 1) (D_Model_init 255 rfl) rfl rfl ?_
  refine j_getR (t := 135) rfl fa_Model_175 kd_81 (by decide) (by decide) rfl (fun _ => by decide +kernel) (by decide) (D_Model_init 256 rfl) ?_
  refine j_iloadn (k := 0) (D_Model_init 257 rfl) rfl rfl ?_
  refine j_bipush (v := (-2)) (D_Model_init 258 rfl) rfl ?_
  refine j_iast (NI := 120) (D_Model_init 259 rfl) kd_135 (by decide) (wr_lit rfl) rfl (by decide) (by decide) ?_
  refine j_iinc (k := 0) (x' := 49) (L' := [(1, vi 49), (0, rf X 81)]) (D_Model_init 260 rfl) rfl (by decide +kernel) (by decide) rfl ?_
  refine j_goto (tgt := 497) (D_Model_init 261 rfl) rfl ?_
  refine j_iloadn (k := 0) (D_Model_init 252 rfl) rfl rfl ?_
  refine j_bipush (v := 120) (D_Model_init 253 rfl) rfl ?_
  refine j_ic_ge (tgt := 517) (D_Model_init 254 rfl) rfl (wr_lit rfl) (wr_lit rfl) (fun h => absurd h (by decide)) (fun _ => ?_)
  refine j_aloadn (k := 1) (D_Model_init 255 rfl) rfl rfl ?_
  refine j_getR (t := 135) rfl fa_Model_175 kd_81 (by decide) (by decide) rfl (fun _ => by decide +kernel) (by decide) (D_Model_init 256 rfl) ?_
  refine j_iloadn (k := 0) (D_Model_init 257 rfl) rfl rfl ?_
  refine j_bipush (v := (-2)) (D_Model_init 258 rfl) rfl ?_
  refine j_iast (NI := 120) (D_Model_init 259 rfl) kd_135 (by decide) (wr_lit rfl) rfl (by decide) (by decide) ?_
  refine j_iinc (k := 0) (x' := 50) (L' := [(1, vi 50), (0, rf X 81)]) (D_Model_init 260 rfl) rfl (by decide +kernel) (by decide) rfl ?_
  refine j_goto (tgt := 497) (D_Model_init 261 rfl) rfl ?_
  refine j_iloadn (k := 0) (D_Model_init 252 rfl) rfl rfl ?_
  refine j_bipush (v := 120) (D_Model_init 253 rfl) rfl ?_
  refine j_ic_ge (tgt := 517) (D_Model_init 254 rfl) rfl (wr_lit rfl) (wr_lit rfl) (fun h => absurd h (by decide)) (fun _ => ?_)
  refine j_aloadn (k := 1) (D_Model_init 255 rfl) rfl rfl ?_
  refine j_getR (t := 135) rfl fa_Model_175 kd_81 (by decide) (by decide) rfl (fun _ => by decide +kernel) (by decide) (D_Model_init 256 rfl) ?_
  refine j_iloadn (k := 0) (D_Model_init 257 rfl) rfl rfl ?_
  refine j_bipush (v := (-2)) (D_Model_init 258 rfl) rfl ?_
  refine j_iast (NI := 120) (D_Model_init 259 rfl) kd_135 (by decide) (wr_lit rfl) rfl (by decide) (by decide) ?_
  refine j_iinc (k := 0) (x' := 51) (L' := [(1, vi 51), (0, rf X 81)]) (D_Model_init 260 rfl) rfl (by decide +kernel) (by decide) rfl ?_
  refine j_goto (tgt := 497) (D_Model_init 261 rfl) rfl ?_
  refine j_iloadn (k := 0) (D_Model_init 252 rfl) rfl rfl ?_
  refine j_bipush (v := 120) (D_Model_init 253 rfl) rfl ?_
  refine j_ic_ge (tgt := 517) (D_Model_init 254 rfl) rfl (wr_lit rfl) (wr_lit rfl) (fun h => absurd h (by decide)) (fun _ => ?_)
  refine j_aloadn (k := 1) (D_Model_init 255 rfl) rfl rfl ?_
  refine j_getR (t := 135) rfl fa_Model_175 kd_81 (by decide) (by decide) rfl (fun _ => by decide +kernel) (by decide) (D_Model_init 256 rfl) ?_
  refine j_iloadn (k := 0) (D_Model_init 257 rfl) rfl rfl ?_
  refine j_bipush (v := (-2)) (D_Model_init 258 rfl) rfl ?_
  refine j_iast (NI := 120) (D_Model_init 259 rfl) kd_135 (by decide) (wr_lit rfl) rfl (by decide) (by decide) ?_
  refine j_iinc (k := 0) (x' := 52) (L' := [(1, vi 52), (0, rf X 81)]) (D_Model_init 260 rfl) rfl (by decide +kernel) (by decide) rfl ?_
  refine j_goto (tgt := 497) (D_Model_init 261 rfl) rfl ?_
  refine j_iloadn (k := 0) (D_Model_init 252 rfl) rfl rfl ?_
  refine j_bipush (v := 120) (D_Model_init 253 rfl) rfl ?_
  refine j_ic_ge (tgt := 517) (D_Model_init 254 rfl) rfl (wr_lit rfl) (wr_lit rfl) (fun h => absurd h (by decide)) (fun _ => ?_)
  refine j_aloadn (k := 1) (D_Model_init 255 rfl) rfl rfl ?_
  refine j_getR (t := 135) rfl fa_Model_175 kd_81 (by decide) (by decide) rfl (fun _ => by decide +kernel) (by decide) (D_Model_init 256 rfl) ?_
  refine j_iloadn (k := 0) (D_Model_init 257 rfl) rfl rfl ?_
  refine j_bipush (v := (-2)) (D_Model_init 258 rfl) rfl ?_
  refine j_iast (NI := 120) (D_Model_init 259 rfl) kd_135 (by decide) (wr_lit rfl) rfl (by decide) (by decide) ?_
  refine j_iinc (k := 0) (x' := 53) (L' := [(1, vi 53), (0, rf X 81)]) (D_Model_init 260 rfl) rfl (by decide +kernel) (by decide) rfl ?_
  refine j_goto (tgt := 497) (D_Model_init 261 rfl) rfl ?_
  refine j_iloadn (k := 0) (D_Model_init 252 rfl) rfl rfl ?_
  refine j_bipush (v := 120) (D_Model_init 253 rfl) rfl ?_
  refine j_ic_ge (tgt := 517) (D_Model_init 254 rfl) rfl (wr_lit rfl) (wr_lit rfl) (fun h => absurd h (by decide)) (fun _ => ?_)
  refine j_aloadn (k := 1) (D_Model_init 255 rfl) rfl rfl ?_
  refine j_getR (t := 135) rfl fa_Model_175 kd_81 (by decide) (by decide) rfl (fun _ => by decide +kernel) (by decide) (D_Model_init 256 rfl) ?_
  refine j_iloadn (k := 0) (D_Model_init 257 rfl) rfl rfl ?_
  refine j_bipush (v := (-2)) (D_Model_init 258 rfl) rfl ?_
  refine j_iast (NI := 120) (D_Model_init 259 rfl) kd_135 (by decide) (wr_lit rfl) rfl (by decide) (by decide) ?_
  refine j_iinc (k := 0) (x' := 54) (L' := [(1, vi 54), (0, rf X 81)]) (D_Model_init 260 rfl) rfl (by decide +kernel) (by decide) rfl ?_
  refine j_goto (tgt := 497) (D_Model_init 261 rfl) rfl ?_
  refine j_iloadn (k := 0) (D_Model_init 252 rfl) rfl rfl ?_
  refine j_bipush (v := 120) (D_Model_init 253 rfl) rfl ?_
  refine j_ic_ge (tgt := 517) (D_Model_init 254 rfl) rfl (wr_lit rfl) (wr_lit rfl) (fun h => absurd h (by decide)) (fun _ => ?_)
  refine j_aloadn (k := 1) (D_Model_init 255 rfl) rfl rfl ?_
  refine j_getR (t := 135) rfl fa_Model_175 kd_81 (by decide) (by decide) rfl (fun _ => by decide +kernel) (by decide) (D_Model_init 256 rfl) ?_
  refine j_iloadn (k := 0) (D_Model_init 257 rfl) rfl rfl ?_
  refine j_bipush (v := (-2)) (D_Model_init 258 rfl) rfl ?_
  refine j_iast (NI := 120) (D_Model_init 259 rfl) kd_135 (by decide) (wr_lit rfl) rfl (by decide) (by decide) ?_
  refine j_iinc (k := 0) (x' := 55) (L' := [(1, vi 55), (0, rf X 81)]) (D_Model_init 260 rfl) rfl (by decide +kernel) (by decide) rfl ?_
  refine j_goto (tgt := 497) (D_Model_init 261 rfl) rfl ?_
  refine j_iloadn (k := 0) (D_Model_init 252 rfl) rfl rfl ?_
  refine j_bipush (v := 120) (D_Model_init 253 rfl) rfl ?_
  refine j_ic_ge (tgt := 517) (D_Model_init 254 rfl) rfl (wr_lit rfl) (wr_lit rfl) (fun h => absurd h (by decide)) (fun _ => ?_)
  refine j_aloadn (k := 1) (D_Model_init 255 rfl) rfl rfl ?_
  refine j_getR (t := 135) rfl fa_Model_175 kd_81 (by decide) (by decide) rfl (fun _ => by decide +kernel) (by decide) (D_Model_init 256 rfl) ?_
  refine j_iloadn (k := 0) (D_Model_init 257 rfl) rfl rfl ?_
  refine j_bipush (v := (-2)) (D_Model_init 258 rfl) rfl ?_
  refine j_iast (NI := 120) (D_Model_init 259 rfl) kd_135 (by decide) (wr_lit rfl) rfl (by decide) (by decide) ?_
  refine j_iinc (k := 0) (x' := 56) (L' := [(1, vi 56), (0, rf X 81)]) (D_Model_init 260 rfl) rfl (by decide +kernel) (by decide) rfl ?_
  refine j_goto (tgt := 497) (D_Model_init 261 rfl) rfl ?_
  refine j_iloadn (k := 0) (D_Model_init 252 rfl) rfl rfl ?_
  refine j_bipush (v := 120) (D_Model_init 253 rfl) rfl ?_
  refine j_ic_ge (tgt := 517) (D_Model_init 254 rfl) rfl (wr_lit rfl) (wr_lit rfl) (fun h => absurd h (by decide)) (fun _ => ?_)
  refine j_aloadn (k := 1) (D_Model_init 255 rfl) rfl rfl ?_
  refine j_getR (t := 135) rfl fa_Model_175 kd_81 (by decide) (by decide) rfl (fun _ => by decide +kernel) (by decide) (D_Model_init 256 rfl) ?_
  refine j_iloadn (k := 0) (D_Model_init 257 rfl) rfl rfl ?_
  refine j_bipush (v := (-2)) (D_Model_init 258 rfl) rfl ?_
  refine j_iast (NI := 120) (D_Model_init 259 rfl) kd_135 (by decide) (wr_lit rfl) rfl (by decide) (by decide) ?_
  refine j_iinc (k := 0) (x' := 57) (L' := [(1, vi 57), (0, rf X 81)]) (D_Model_init 260 rfl) rfl (by decide +kernel) (by decide) rfl ?_
  refine j_goto (tgt := 497) (D_Model_init 261 rfl) rfl ?_
  refine j_iloadn (k := 0) (D_Model_init 252 rfl) rfl rfl ?_
  refine j_bipush (v := 120) (D_Model_init 253 rfl) rfl ?_
  refine j_ic_ge (tgt := 517) (D_Model_init 254 rfl) rfl (wr_lit rfl) (wr_lit rfl) (fun h => absurd h (by decide)) (fun _ => ?_)
  refine j_aloadn (k := 1) (D_Model_init 255 rfl) rfl rfl ?_
  refine j_getR (t := 135) rfl fa_Model_175 kd_81 (by decide) (by decide) rfl (fun _ => by decide +kernel) (by decide) (D_Model_init 256 rfl) ?_
  refine j_iloadn (k := 0) (D_Model_init 257 rfl) rfl rfl ?_
  refine j_bipush (v := (-2)) (D_Model_init 258 rfl) rfl ?_
  refine j_iast (NI := 120) (D_Model_init 259 rfl) kd_135 (by decide) (wr_lit rfl) rfl (by decide) (by decide) ?_
  refine j_iinc (k := 0) (x' := 58) (L' := [(1, vi 58), (0, rf X 81)]) (D_Model_init 260 rfl) rfl (by decide +kernel) (by decide) rfl ?_
  refine j_goto (tgt := 497) (D_Model_init 261 rfl) rfl ?_
  refine j_iloadn (k := 0) (D_Model_init 252 rfl) rfl rfl ?_
  refine j_bipush (v := 120) (D_Model_init 253 rfl) rfl ?_
  refine j_ic_ge (tgt := 517) (D_Model_init 254 rfl) rfl (wr_lit rfl) (wr_lit rfl) (fun h => absurd h (by decide)) (fun _ => ?_)
  refine j_aloadn (k := 1) (D_Model_init 255 rfl) rfl rfl ?_
  refine j_getR (t := 135) rfl fa_Model_175 kd_81 (by decide) (by decide) rfl (fun _ => by decide +kernel) (by decide) (D_Model_init 256 rfl) ?_
  refine j_iloadn (k := 0) (D_Model_init 257 rfl) rfl rfl ?_
  refine j_bipush (v := (-2)) (D_Model_init 258 rfl) rfl ?_
  refine j_iast (NI := 120) (D_Model_init 259 rfl) kd_135 (by decide) (wr_lit rfl) rfl (by decide) (by decide) ?_
  refine j_iinc (k := 0) (x' := 59) (L' := [(1, vi 59), (0, rf X 81)]) (D_Model_init 260 rfl) rfl (by decide +kernel) (by decide) rfl ?_
  refine j_goto (tgt := 497) (D_Model_init 261 rfl) rfl ?_
  refine j_iloadn (k := 0) (D_Model_init 252 rfl) rfl rfl ?_
  refine j_bipush (v := 120) (D_Model_init 253 rfl) rfl ?_
  refine j_ic_ge (tgt := 517) (D_Model_init 254 rfl) rfl (wr_lit rfl) (wr_lit rfl) (fun h => absurd h (by decide)) (fun _ => ?_)
  refine j_aloadn (k := 1) (D_Model_init 255 rfl) rfl rfl ?_
  refine j_getR (t := 135) rfl fa_Model_175 kd_81 (by decide) (by decide) rfl (fun _ => by decide +kernel) (by decide) (D_Model_init 256 rfl) ?_
  refine j_iloadn (k := 0) (D_Model_init 257 rfl) rfl rfl ?_
  refine j_bipush (v := (-2)) (D_Model_init 258 rfl) rfl ?_
  refine j_iast (NI := 120) (D_Model_init 259 rfl) kd_135 (by decide) (wr_lit rfl) rfl (by decide) (by decide) ?_
  refine j_iinc (k := 0) (x' := 60) (L' := [(1, vi 60), (0, rf X 81)]) (D_Model_init 260 rfl) rfl (by decide +kernel) (by decide) rfl ?_
  refine j_goto (tgt := 497) (D_Model_init 261 rfl) rfl ?_
  refine j_iloadn (k := 0) (D_Model_init 252 rfl) rfl rfl ?_
  refine j_bipush (v := 120) (D_Model_init 253 rfl) rfl ?_
  refine j_ic_ge (tgt := 517) (D_Model_init 254 rfl) rfl (wr_lit rfl) (wr_lit rfl) (fun h => absurd h (by decide)) (fun _ => ?_)
  refine j_aloadn (k := 1) (D_Model_init 255 rfl) rfl rfl ?_
  refine j_getR (t := 135) rfl fa_Model_175 kd_81 (by decide) (by decide) rfl (fun _ => by decide +kernel) (by decide) (D_Model_init 256 rfl) ?_
  refine j_iloadn (k := 0) (D_Model_init 257 rfl) rfl rfl ?_
  refine j_bipush (v := (-2)) (D_Model_init 258 rfl) rfl ?_
  refine j_iast (NI := 120) (D_Model_init 259 rfl) kd_135 (by decide) (wr_lit rfl) rfl (by decide) (by decide) ?_
  refine j_iinc (k := 0) (x' := 61) (L' := [(1, vi 61), (0, rf X 81)]) (D_Model_init 260 rfl) rfl (by decide +kernel) (by decide) rfl ?_
  refine j_goto (tgt := 497) (D_Model_init 261 rfl) rfl ?_
  refine j_iloadn (k := 0) (D_Model_init 252 rfl) rfl rfl ?_
  refine j_bipush (v := 120) (D_Model_init 253 rfl) rfl ?_
  refine j_ic_ge (tgt := 517) (D_Model_init 254 rfl) rfl (wr_lit rfl) (wr_lit rfl) (fun h => absurd h (by decide)) (fun _ => ?_)
  refine j_aloadn (k := 1) (D_Model_init 255 rfl) rfl rfl ?_
  refine j_getR (t := 135) rfl fa_Model_175 kd_81 (by decide) (by decide) rfl (fun _ => by decide +kernel) (by decide) (D_Model_init 256 rfl) ?_
  refine j_iloadn (k := 0) (D_Model_init 257 rfl) rfl rfl ?_
  refine j_bipush (v := (-2)) (D_Model_init 258 rfl) rfl ?_
  refine j_iast (NI := 120) (D_Model_init 259 rfl) kd_135 (by decide) (wr_lit rfl) rfl (by decide) (by decide) ?_
  refine j_iinc (k := 0) (x' := 62) (L' := [(1, vi 62), (0, rf X 81)]) (D_Model_init 260 rfl) rfl (by decide +kernel) (by decide) rfl ?_
  refine j_goto (tgt := 497) (D_Model_init 261 rfl) rfl ?_
  refine j_iloadn (k := 0) (D_Model_init 252 rfl) rfl rfl ?_
  refine j_bipush (v := 120) (D_Model_init 253 rfl) rfl ?_
  refine j_ic_ge (tgt := 517) (D_Model_init 254 rfl) rfl (wr_lit rfl) (wr_lit rfl) (fun h => absurd h (by decide)) (fun _ => ?_)
  refine j_aloadn (k := 1) (D_Model_init 255 rfl) rfl rfl ?_
  refine j_getR (t := 135) rfl fa_Model_175 kd_81 (by decide) (by decide) rfl (fun _ => by decide +kernel) (by decide) (D_Model_init 256 rfl) ?_
  refine j_iloadn (k := 0) (D_Model_init 257 rfl) rfl rfl ?_
  refine j_bipush (v := (-2)) (D_Model_init 258 rfl) rfl ?_
  refine j_iast (NI := 120) (D_Model_init 259 rfl) kd_135 (by decide) (wr_lit rfl) rfl (by decide) (by decide) ?_
  refine j_iinc (k := 0) (x' := 63) (L' := [(1, vi 63), (0, rf X 81)]) (D_Model_init 260 rfl) rfl (by decide +kernel) (by decide) rfl ?_
  refine j_goto (tgt := 497) (D_Model_init 261 rfl) rfl ?_
  refine j_iloadn (k := 0) (D_Model_init 252 rfl) rfl rfl ?_
  refine j_bipush (v := 120) (D_Model_init 253 rfl) rfl ?_
  refine j_ic_ge (tgt := 517) (D_Model_init 254 rfl) rfl (wr_lit rfl) (wr_lit rfl) (fun h => absurd h (by decide)) (fun _ => ?_)
  refine j_aloadn (k := 1) (D_Model_init 255 rfl) rfl rfl ?_
  refine j_getR (t := 135) rfl fa_Model_175 kd_81 (by decide) (by decide) rfl (fun _ => by decide +kernel) (by decide) (D_Model_init 256 rfl) ?_
  refine j_iloadn (k := 0) (D_Model_init 257 rfl) rfl rfl ?_
  refine j_bipush (v := (-2)) (D_Model_init 258 rfl) rfl ?_
  refine j_iast (NI := 120) (D_Model_init 259 rfl) kd_135 (by decide) (wr_lit rfl) rfl (by decide) (by decide) ?_
  refine j_iinc (k := 0) (x' := 64) (L' := [(1, vi 64), (0, rf X 81)]) (D_Model_init 260 rfl) rfl (by decide +kernel) (by decide) rfl ?_
  refine j_goto (tgt := 497) (D_Model_init 261 rfl) rfl ?_
  refine j_iloadn (k := 0) (D_Model_init 252 rfl) rfl rfl ?_
  refine j_bipush (v := 120) (D_Model_init 253 rfl) rfl ?_
  refine j_ic_ge (tgt := 517) (D_Model_init 254 rfl) rfl (wr_lit rfl) (wr_lit rfl) (fun h => absurd h (by decide)) (fun _ => ?_)
  refine j_aloadn (k := 1) (D_Model_init 255 rfl) rfl rfl ?_
  refine j_getR (t := 135) rfl fa_Model_175 kd_81 (by decide) (by decide) rfl (fun _ => by decide +kernel) (by decide) (D_Model_init 256 rfl) ?_
  refine j_iloadn (k := 0) (D_Model_init 257 rfl) rfl rfl ?_
  refine j_bipush (v := (-2)) (D_Model_init 258 rfl) rfl ?_
  refine j_iast (NI := 120) (D_Model_init 259 rfl) kd_135 (by decide) (wr_lit rfl) rfl (by decide) (by decide) ?_
  refine j_iinc (k := 0) (x' := 65) (L' := [(1, vi 65), (0, rf X 81)]) (D_Model_init 260 rfl) rfl (by decide +kernel) (by decide) rfl ?_
  refine j_goto (tgt := 497) (D_Model_init 261 rfl) rfl ?_
  refine j_iloadn (k := 0) (D_Model_init 252 rfl) rfl rfl ?_
  refine j_bipush (v := 120) (D_Model_init 253 rfl) rfl ?_
  refine j_ic_ge (tgt := 517) (D_Model_init 254 rfl) rfl (wr_lit rfl) (wr_lit rfl) (fun h => absurd h (by decide)) (fun _ => ?_)
  refine j_aloadn (k := 1) (D_Model_init 255 rfl) rfl rfl ?_
  refine j_getR (t := 135) rfl fa_Model_175 kd_81 (by decide) (by decide) rfl (fun _ => by decide +kernel) (by decide) (D_Model_init 256 rfl) ?_
  refine j_iloadn (k := 0) (D_Model_init 257 rfl) rfl rfl ?_
  refine j_bipush (v := (-2)) (D_Model_init 258 rfl) rfl ?_
  refine j_iast (NI := 120) (D_Model_init 259 rfl) kd_135 (by decide) (wr_lit rfl) rfl (by decide) (by decide) ?_
  refine j_iinc (k := 0) (x' := 66) (L' := [(1, vi 66), (0, rf X 81)]) (D_Model_init 260 rfl) rfl (by decide +kernel) (by decide) rfl ?_
  refine j_goto (tgt := 497) (D_Model_init 261 rfl) rfl ?_
  refine j_iloadn (k := 0) (D_Model_init 252 rfl) rfl rfl ?_
  refine j_bipush (v := 120) (D_Model_init 253 rfl) rfl ?_
  refine j_ic_ge (tgt := 517) (D_Model_init 254 rfl) rfl (wr_lit rfl) (wr_lit rfl) (fun h => absurd h (by decide)) (fun _ => ?_)
  refine j_aloadn (k := 1) (D_Model_init 255 rfl) rfl rfl ?_
  refine j_getR (t := 135) rfl fa_Model_175 kd_81 (by decide) (by decide) rfl (fun _ => by decide +kernel) (by decide) (D_Model_init 256 rfl) ?_
  refine j_iloadn (k := 0) (D_Model_init 257 rfl) rfl rfl ?_
  refine j_bipush (v := (-2)) (D_Model_init 258 rfl) rfl ?_
  refine j_iast (NI := 120) (D_Model_init 259 rfl) kd_135 (by decide) (wr_lit rfl) rfl (by decide) (by decide) ?_
  refine j_iinc (k := 0) (x' := 67) (L' := [(1, vi 67), (0, rf X 81)]) (D_Model_init 260 rfl) rfl (by decide +kernel) (by decide) rfl ?_
  refine j_goto (tgt := 497) (D_Model_init 261 rfl) rfl ?_
  refine j_iloadn (k := 0) (D_Model_init 252 rfl) rfl rfl ?_
  refine j_bipush (v := 120) (D_Model_init 253 rfl) rfl ?_
  refine j_ic_ge (tgt := 517) (D_Model_init 254 rfl) rfl (wr_lit rfl) (wr_lit rfl) (fun h => absurd h (by decide)) (fun _ => ?_)
  refine j_aloadn (k := 1) (D_Model_init 255 rfl) rfl rfl ?_
  refine j_getR (t := 135) rfl fa_Model_175 kd_81 (by decide) (by decide) rfl (fun _ => by decide +kernel) (by decide) (D_Model_init 256 rfl) ?_
  refine j_iloadn (k := 0) (D_Model_init 257 rfl) rfl rfl ?_
  refine j_bipush (v := (-2)) (D_Model_init 258 rfl) rfl ?_
  refine j_iast (NI := 120) (D_Model_init 259 rfl) kd_135 (by decide) (wr_lit rfl) rfl (by decide) (by decide) ?_
  refine j_iinc (k := 0) (x' := 68) (L' := [(1, vi 68), (0, rf X 81)]) (D_Model_init 260 rfl) rfl (by decide +kernel) (by decide) rfl ?_
  refine j_goto (tgt := 497) (D_Model_init 261 rfl) rfl ?_
  refine j_iloadn (k := 0) (D_Model_init 252 rfl) rfl rfl ?_
  refine j_bipush (v := 120) (D_Model_init 253 rfl) rfl ?_
  refine j_ic_ge (tgt := 517) (D_Model_init 254 rfl) rfl (wr_lit rfl) (wr_lit rfl) (fun h => absurd h (by decide)) (fun _ => ?_)
  refine j_aloadn (k := 1) (D_Model_init 255 rfl) rfl rfl ?_
  refine j_getR (t := 135) rfl fa_Model_175 kd_81 (by decide) (by decide) rfl (fun _ => by decide +kernel) (by decide) (D_Model_init 256 rfl) ?_
  refine j_iloadn (k := 0) (D_Model_init 257 rfl) rfl rfl ?_
  refine j_bipush (v := (-2)) (D_Model_init 258 rfl) rfl ?_
  refine j_iast (NI := 120) (D_Model_init 259 rfl) kd_135 (by decide) (wr_lit rfl) rfl (by decide) (by decide) ?_
  refine j_iinc (k := 0) (x' := 69) (L' := [(1, vi 69), (0, rf X 81)]) (D_Model_init 260 rfl) rfl (by decide +kernel) (by decide) rfl ?_
  refine j_goto (tgt := 497) (D_Model_init 261 rfl) rfl ?_
  refine j_iloadn (k := 0) (D_Model_init 252 rfl) rfl rfl ?_
  refine j_bipush (v := 120) (D_Model_init 253 rfl) rfl ?_
  refine j_ic_ge (tgt := 517) (D_Model_init 254 rfl) rfl (wr_lit rfl) (wr_lit rfl) (fun h => absurd h (by decide)) (fun _ => ?_)
  refine j_aloadn (k := 1) (D_Model_init 255 rfl) rfl rfl ?_
  refine j_getR (t := 135) rfl fa_Model_175 kd_81 (by decide) (by decide) rfl (fun _ => by decide +kernel) (by decide) (D_Model_init 256 rfl) ?_
  refine j_iloadn (k := 0) (D_Model_init 257 rfl) rfl rfl ?_
  refine j_bipush (v := (-2)) (D_Model_init 258 rfl) rfl ?_
  refine j_iast (NI := 120) (D_Model_init 259 rfl) kd_135 (by decide) (wr_lit rfl) rfl (by decide) (by decide) ?_
  refine j_iinc (k := 0) (x' := 70) (L' := [(1, vi 70), (0, rf X 81)]) (D_Model_init 260 rfl) rfl (by decide +kernel) (by decide) rfl ?_
  refine j_goto (tgt := 497) (D_Model_init 261 rfl) rfl ?_
  refine j_iloadn (k := 0) (D_Model_init 252 rfl) rfl rfl ?_
  refine j_bipush (v := 120) (D_Model_init 253 rfl) rfl ?_
  refine j_ic_ge (tgt := 517) (D_Model_init 254 rfl) rfl (wr_lit rfl) (wr_lit rfl) (fun h => absurd h (by decide)) (fun _ => ?_)
  refine j_aloadn (k := 1) (D_Model_init 255 rfl) rfl rfl ?_
  refine j_getR (t := 135) rfl fa_Model_175 kd_81 (by decide) (by decide) rfl (fun _ => by decide +kernel) (by decide) (D_Model_init 256 rfl) ?_
  refine j_iloadn (k := 0) (D_Model_init 257 rfl) rfl rfl ?_
  refine j_bipush (v := (-2)) (D_Model_init 258 rfl) rfl ?_
  refine j_iast (NI := 120) (D_Model_init 259 rfl) kd_135 (by decide) (wr_lit rfl) rfl (by decide) (by decide) ?_
  refine j_iinc (k := 0) (x' := 71) (L' := [(1, vi 71), (0, rf X 81)]) (D_Model_init 260 rfl) rfl (by decide +kernel) (by decide) rfl ?_
  refine j_goto (tgt := 497) (D_Model_init 261 rfl) rfl ?_
  refine j_iloadn (k := 0) (D_Model_init 252 rfl) rfl rfl ?_
  refine j_bipush (v := 120) (D_Model_init 253 rfl) rfl ?_
  refine j_ic_ge (tgt := 517) (D_Model_init 254 rfl) rfl (wr_lit rfl) (wr_lit rfl) (fun h => absurd h (by decide)) (fun _ => ?_)
  refine j_aloadn (k := 1) (D_Model_init 255 rfl) rfl rfl ?_
  refine j_getR (t := 135) rfl fa_Model_175 kd_81 (by decide) (by decide) rfl (fun _ => by decide +kernel) (by decide) (D_Model_init 256 rfl) ?_
  refine j_iloadn (k := 0) (D_Model_init 257 rfl) rfl rfl ?_
  refine j_bipush (v := (-2)) (D_Model_init 258 rfl) rfl ?_
  refine j_iast (NI := 120) (D_Model_init 259 rfl) kd_135 (by decide) (wr_lit rfl) rfl (by decide) (by decide) ?_
  refine j_iinc (k := 0) (x' := 72) (L' := [(1, vi 72), (0, rf X 81)]) (D_Model_init 260 rfl) rfl (by decide +kernel) (by decide) rfl ?_
  refine j_goto (tgt := 497) (D_Model_init 261 rfl) rfl ?_
  refine j_iloadn (k := 0) (D_Model_init 252 rfl) rfl rfl ?_
  refine j_bipush (v := 120) (D_Model_init 253 rfl) rfl ?_
  refine j_ic_ge (tgt := 517) (D_Model_init 254 rfl) rfl (wr_lit rfl) (wr_lit rfl) (fun h => absurd h (by decide)) (fun _ => ?_)
  refine j_aloadn (k := 1) (D_Model_init 255 rfl) rfl rfl ?_
  refine j_getR (t := 135) rfl fa_Model_175 kd_81 (by decide) (by decide) rfl (fun _ => by decide +kernel) (by decide) (D_Model_init 256 rfl) ?_
  refine j_iloadn (k := 0) (D_Model_init 257 rfl) rfl rfl ?_
  refine j_bipush (v := (-2)) (D_Model_init 258 rfl) rfl ?_
  refine j_iast (NI := 120) (D_Model_init 259 rfl) kd_135 (by decide) (wr_lit rfl) rfl (by decide) (by decide) ?_
  refine j_iinc (k := 0) (x' := 73) (L' := [(1, vi 73), (0, rf X 81)]) (D_Model_init 260 rfl) rfl (by decide +kernel) (by decide) rfl ?_
  refine j_goto (tgt := 497) (D_Model_init 261 rfl) rfl ?_
  refine j_iloadn (k := 0) (D_Model_init 252 rfl) rfl rfl ?_
  refine j_bipush (v := 120) (D_Model_init 253 rfl) rfl ?_
  refine j_ic_ge (tgt := 517) (D_Model_init 254 rfl) rfl (wr_lit rfl) (wr_lit rfl) (fun h => absurd h (by decide)) (fun _ => ?_)
  refine j_aloadn (k := 1) (D_Model_init 255 rfl) rfl rfl ?_
  refine j_getR (t := 135) rfl fa_Model_175 kd_81 (by decide) (by decide) rfl (fun _ => by decide +kernel) (by decide) (D_Model_init 256 rfl) ?_
  refine j_iloadn (k := 0) (D_Model_init 257 rfl) rfl rfl ?_
  refine j_bipush (v := (-2)) (D_Model_init 258 rfl) rfl ?_
  refine j_iast (NI := 120) (D_Model_init 259 rfl) kd_135 (by decide) (wr_lit rfl) rfl (by decide) (by decide) ?_
  refine j_iinc (k := 0) (x' := 74) (L' := [(1, vi 74), (0, rf X 81)]) (D_Model_init 260 rfl) rfl (by decide +kernel) (by decide) rfl ?_
  refine j_goto (tgt := 497) (D_Model_init 261 rfl) rfl ?_
  refine j_iloadn (k := 0) (D_Model_init 252 rfl) rfl rfl ?_
  refine j_bipush (v := 120) (D_Model_init 253 rfl) rfl ?_
  refine j_ic_ge (tgt := 517) (D_Model_init 254 rfl) rfl (wr_lit rfl) (wr_lit rfl) (fun h => absurd h (by decide)) (fun _ => ?_)
  refine j_aloadn (k := 1) (D_Model_init 255 rfl) rfl rfl ?_
  refine j_getR (t := 135) rfl fa_Model_175 kd_81 (by decide) (by decide) rfl (fun _ => by decide +kernel) (by decide) (D_Model_init 256 rfl) ?_
  refine j_iloadn (k := 0) (D_Model_init 257 rfl) rfl rfl ?_
  refine j_bipush (v := (-2)) (D_Model_init 258 rfl) rfl ?_
  refine j_iast (NI := 120) (D_Model_init 259 rfl) kd_135 (by decide) (wr_lit rfl) rfl (by decide) (by decide) ?_
  refine j_iinc (k := 0) (x' := 75) (L' := [(1, vi 75), (0, rf X 81)]) (D_Model_init 260 rfl) rfl (by decide +kernel) (by decide) rfl ?_
  refine j_goto (tgt := 497) (D_Model_init 261 rfl) rfl ?_
  refine j_iloadn (k := 0) (D_Model_init 252 rfl) rfl rfl ?_
  refine j_bipush (v := 120) (D_Model_init 253 rfl) rfl ?_
  refine j_ic_ge (tgt := 517) (D_Model_init 254 rfl) rfl (wr_lit rfl) (wr_lit rfl) (fun h => absurd h (by decide)) (fun _ => ?_)
  refine j_aloadn (k := 1) (D_Model_init 255 rfl) rfl rfl ?_
  refine j_getR (t := 135) rfl fa_Model_175 kd_81 (by decide) (by decide) rfl (fun _ => by decide +kernel) (by decide) (D_Model_init 256 rfl) ?_
  refine j_iloadn (k := 0) (D_Model_init 257 rfl) rfl rfl ?_
  refine j_bipush (v := (-2)) (D_Model_init 258 rfl) rfl ?_
  refine j_iast (NI := 120) (D_Model_init 259 rfl) kd_135 (by decide) (wr_lit rfl) rfl (by decide) (by decide) ?_
  refine j_iinc (k := 0) (x' := 76) (L' := [(1, vi 76), (0, rf X 81)]) (D_Model_init 260 rfl) rfl (by decide +kernel) (by decide) rfl ?_
  refine j_goto (tgt := 497) (D_Model_init 261 rfl) rfl ?_
  refine j_iloadn (k := 0) (D_Model_init 252 rfl) rfl rfl ?_
  refine j_bipush (v := 120) (D_Model_init 253 rfl) rfl ?_
  refine j_ic_ge (tgt := 517) (D_Model_init 254 rfl) rfl (wr_lit rfl) (wr_lit rfl) (fun h => absurd h (by decide)) (fun _ => ?_)
  refine j_aloadn (k := 1) (D_Model_init 255 rfl) rfl rfl ?_
  refine j_getR (t := 135) rfl fa_Model_175 kd_81 (by decide) (by decide) rfl (fun _ => by decide +kernel) (by decide) (D_Model_init 256 rfl) ?_
  refine j_iloadn (k := 0) (D_Model_init 257 rfl) rfl rfl ?_
  refine j_bipush (v := (-2)) (D_Model_init 258 rfl) rfl ?_
  refine j_iast (NI := 120) (D_Model_init 259 rfl) kd_135 (by decide) (wr_lit rfl) rfl (by decide) (by decide) ?_
  refine j_iinc (k := 0) (x' := 77) (L' := [(1, vi 77), (0, rf X 81)]) (D_Model_init 260 rfl) rfl (by decide +kernel) (by decide) rfl ?_
  refine j_goto (tgt := 497) (D_Model_init 261 rfl) rfl ?_
  refine j_iloadn (k := 0) (D_Model_init 252 rfl) rfl rfl ?_
  refine j_bipush (v := 120) (D_Model_init 253 rfl) rfl ?_
  refine j_ic_ge (tgt := 517) (D_Model_init 254 rfl) rfl (wr_lit rfl) (wr_lit rfl) (fun h => absurd h (by decide)) (fun _ => ?_)
  refine j_aloadn (k := 1) (D_Model_init 255 rfl) rfl rfl ?_
  refine j_getR (t := 135) rfl fa_Model_175 kd_81 (by decide) (by decide) rfl (fun _ => by decide +kernel) (by decide) (D_Model_init 256 rfl) ?_
  refine j_iloadn (k := 0) (D_Model_init 257 rfl) rfl rfl ?_
  refine j_bipush (v := (-2)) (D_Model_init 258 rfl) rfl ?_
  refine j_iast (NI := 120) (D_Model_init 259 rfl) kd_135 (by decide) (wr_lit rfl) rfl (by decide) (by decide) ?_
  refine j_iinc (k := 0) (x' := 78) (L' := [(1, vi 78), (0, rf X 81)]) (D_Model_init 260 rfl) rfl (by decide +kernel) (by decide) rfl ?_
  refine j_goto (tgt := 497) (D_Model_init 261 rfl) rfl ?_
  refine j_iloadn (k := 0) (D_Model_init 252 rfl) rfl rfl ?_
  refine j_bipush (v := 120) (D_Model_init 253 rfl) rfl ?_
  refine j_ic_ge (tgt := 517) (D_Model_init 254 rfl) rfl (wr_lit rfl) (wr_lit rfl) (fun h => absurd h (by decide)) (fun _ => ?_)
  refine j_aloadn (k := 1) (D_Model_init 255 rfl) rfl rfl ?_
  refine j_getR (t := 135) rfl fa_Model_175 kd_81 (by decide) (by decide) rfl (fun _ => by decide +kernel) (by decide) (D_Model_init 256 rfl) ?_
  refine j_iloadn (k := 0) (D_Model_init 257 rfl) rfl rfl ?_
  refine j_bipush (v := (-2)) (D_Model_init 258 rfl) rfl ?_
  refine j_iast (NI := 120) (D_Model_init 259 rfl) kd_135 (by decide) (wr_lit rfl) rfl (by decide) (by decide) ?_
  refine j_iinc (k := 0) (x' := 79) (L' := [(1, vi 79), (0, rf X 81)]) (D_Model_init 260 rfl) rfl (by decide +kernel) (by decide) rfl ?_
  refine j_goto (tgt := 497) (D_Model_init 261 rfl) rfl ?_
  refine j_iloadn (k := 0) (D_Model_init 252 rfl) rfl rfl ?_
  refine j_bipush (v := 120) (D_Model_init 253 rfl) rfl ?_
  refine j_ic_ge (tgt := 517) (D_Model_init 254 rfl) rfl (wr_lit rfl) (wr_lit rfl) (fun h => absurd h (by decide)) (fun _ => ?_)
  refine j_aloadn (k := 1) (D_Model_init 255 rfl) rfl rfl ?_
  refine j_getR (t := 135) rfl fa_Model_175 kd_81 (by decide) (by decide) rfl (fun _ => by decide +kernel) (by decide) (D_Model_init 256 rfl) ?_
  refine j_iloadn (k := 0) (D_Model_init 257 rfl) rfl rfl ?_
  refine j_bipush (v := (-2)) (D_Model_init 258 rfl) rfl ?_
  refine j_iast (NI := 120) (D_Model_init 259 rfl) kd_135 (by decide) (wr_lit rfl) rfl (by decide) (by decide) ?_
  refine j_iinc (k := 0) (x' := 80) (L' := [(1, vi 80), (0, rf X 81)]) (D_Model_init 260 rfl) rfl (by decide +kernel) (by decide) rfl ?_
  refine j_goto (tgt := 497) (D_Model_init 261 rfl) rfl ?_
  refine j_iloadn (k := 0) (D_Model_init 252 rfl) rfl rfl ?_
  refine j_bipush (v := 120) (D_Model_init 253 rfl) rfl ?_
  refine j_ic_ge (tgt := 517) (D_Model_init 254 rfl) rfl (wr_lit rfl) (wr_lit rfl) (fun h => absurd h (by decide)) (fun _ => ?_)
  refine j_aloadn (k := 1) (D_Model_init 255 rfl) rfl rfl ?_
  refine j_getR (t := 135) rfl fa_Model_175 kd_81 (by decide) (by decide) rfl (fun _ => by decide +kernel) (by decide) (D_Model_init 256 rfl) ?_
  refine j_iloadn (k := 0) (D_Model_init 257 rfl) rfl rfl ?_
  refine j_bipush (v := (-2)) (D_Model_init 258 rfl) rfl ?_
  refine j_iast (NI := 120) (D_Model_init 259 rfl) kd_135 (by decide) (wr_lit rfl) rfl (by decide) (by decide) ?_
  refine j_iinc (k := 0) (x' := 81) (L' := [(1, vi 81), (0, rf X 81)]) (D_Model_init 260 rfl) rfl (by decide +kernel) (by decide) rfl ?_
  refine j_goto (tgt := 497) (D_Model_init 261 rfl) rfl ?_
  refine j_iloadn (k := 0) (D_Model_init 252 rfl) rfl rfl ?_
  refine j_bipush (v := 120) (D_Model_init 253 rfl) rfl ?_
  refine j_ic_ge (tgt := 517) (D_Model_init 254 rfl) rfl (wr_lit rfl) (wr_lit rfl) (fun h => absurd h (by decide)) (fun _ => ?_)
  refine j_aloadn (k := 1) (D_Model_init 255 rfl) rfl rfl ?_
  refine j_getR (t := 135) rfl fa_Model_175 kd_81 (by decide) (by decide) rfl (fun _ => by decide +kernel) (by decide) (D_Model_init 256 rfl) ?_
  refine j_iloadn (k := 0) (D_Model_init 257 rfl) rfl rfl ?_
  refine j_bipush (v := (-2)) (D_Model_init 258 rfl) rfl ?_
  refine j_iast (NI := 120) (D_Model_init 259 rfl) kd_135 (by decide) (wr_lit rfl) rfl (by decide) (by decide) ?_
  refine j_iinc (k := 0) (x' := 82) (L' := [(1, vi 82), (0, rf X 81)]) (D_Model_init 260 rfl) rfl (by decide +kernel) (by decide) rfl ?_
  refine j_goto (tgt := 497) (D_Model_init 261 rfl) rfl ?_
  refine j_iloadn (k := 0) (D_Model_init 252 rfl) rfl rfl ?_
  refine j_bipush (v := 120) (D_Model_init 253 rfl) rfl ?_
  refine j_ic_ge (tgt := 517) (D_Model_init 254 rfl) rfl (wr_lit rfl) (wr_lit rfl) (fun h => absurd h (by decide)) (fun _ => ?_)
  refine j_aloadn (k := 1) (D_Model_init 255 rfl) rfl rfl ?_
  refine j_getR (t := 135) rfl fa_Model_175 kd_81 (by decide) (by decide) rfl (fun _ => by decide +kernel) (by decide) (D_Model_init 256 rfl) ?_
  refine j_iloadn (k := 0) (D_Model_init 257 rfl) rfl rfl ?_
  refine j_bipush (v := (-2)) (D_Model_init 258 rfl) rfl ?_
  refine j_iast (NI := 120) (D_Model_init 259 rfl) kd_135 (by decide) (wr_lit rfl) rfl (by decide) (by decide) ?_
  refine j_iinc (k := 0) (x' := 83) (L' := [(1, vi 83), (0, rf X 81)]) (D_Model_init 260 rfl) rfl (by decide +kernel) (by decide) rfl ?_
  refine j_goto (tgt := 497) (D_Model_init 261 rfl) rfl ?_
  refine j_iloadn (k := 0) (D_Model_init 252 rfl) rfl rfl ?_
  refine j_bipush (v := 120) (D_Model_init 253 rfl) rfl ?_
  refine j_ic_ge (tgt := 517) (D_Model_init 254 rfl) rfl (wr_lit rfl) (wr_lit rfl) (fun h => absurd h (by decide)) (fun _ => ?_)
  refine j_aloadn (k := 1) (D_Model_init 255 rfl) rfl rfl ?_
  refine j_getR (t := 135) rfl fa_Model_175 kd_81 (by decide) (by decide) rfl (fun _ => by decide +kernel) (by decide) (D_Model_init 256 rfl) ?_
  refine j_iloadn (k := 0) (D_Model_init 257 rfl) rfl rfl ?_
  refine j_bipush (v := (-2)) (D_Model_init 258 rfl) rfl ?_
  refine j_iast (NI := 120) (D_Model_init 259 rfl) kd_135 (by decide) (wr_lit rfl) rfl (by decide) (by decide) ?_
  refine j_iinc (k := 0) (x' := 84) (L' := [(1, vi 84), (0, rf X 81)]) (D_Model_init 260 rfl) rfl (by decide +kernel) (by decide) rfl ?_
  refine j_goto (tgt := 497) (D_Model_init 261 rfl) rfl ?_
  refine j_iloadn (k := 0) (D_Model_init 252 rfl) rfl rfl ?_
  refine j_bipush (v := 120) (D_Model_init 253 rfl) rfl ?_
  refine j_ic_ge (tgt := 517) (D_Model_init 254 rfl) rfl (wr_lit rfl) (wr_lit rfl) (fun h => absurd h (by decide)) (fun _ => ?_)
  refine j_aloadn (k := 1) (D_Model_init 255 rfl) rfl rfl ?_
  refine j_getR (t := 135) rfl fa_Model_175 kd_81 (by decide) (by decide) rfl (fun _ => by decide +kernel) (by decide) (D_Model_init 256 rfl) ?_
  refine j_iloadn (k := 0) (D_Model_init 257 rfl) rfl rfl ?_
  refine j_bipush (v := (-2)) (D_Model_init 258 rfl) rfl ?_
  refine j_iast (NI := 120) (D_Model_init 259 rfl) kd_135 (by decide) (wr_lit rfl) rfl (by decide) (by decide) ?_
  refine j_iinc (k := 0) (x' := 85) (L' := [(1, vi 85), (0, rf X 81)]) (D_Model_init 260 rfl) rfl (by decide +kernel) (by decide) rfl ?_
  refine j_goto (tgt := 497) (D_Model_init 261 rfl) rfl ?_
  refine j_iloadn (k := 0) (D_Model_init 252 rfl) rfl rfl ?_
  refine j_bipush (v := 120) (D_Model_init 253 rfl) rfl ?_
  refine j_ic_ge (tgt := 517) (D_Model_init 254 rfl) rfl (wr_lit rfl) (wr_lit rfl) (fun h => absurd h (by decide)) (fun _ => ?_)
  refine j_aloadn (k := 1) (D_Model_init 255 rfl) rfl rfl ?_
  refine j_getR (t := 135) rfl fa_Model_175 kd_81 (by decide) (by decide) rfl (fun _ => by decide +kernel) (by decide) (D_Model_init 256 rfl) ?_
  refine j_iloadn (k := 0) (D_Model_init 257 rfl) rfl rfl ?_
  refine j_bipush (v := (-2)) (D_Model_init 258 rfl) rfl ?_
  refine j_iast (NI := 120) (D_Model_init 259 rfl) kd_135 (by decide) (wr_lit rfl) rfl (by decide) (by decide) ?_
  refine j_iinc (k := 0) (x' := 86) (L' := [(1, vi 86), (0, rf X 81)]) (D_Model_init 260 rfl) rfl (by decide +kernel) (by decide) rfl ?_
  refine j_goto (tgt := 497) (D_Model_init 261 rfl) rfl ?_
  refine j_iloadn (k := 0) (D_Model_init 252 rfl) rfl rfl ?_
  refine j_bipush (v := 120) (D_Model_init 253 rfl) rfl ?_
  refine j_ic_ge (tgt := 517) (D_Model_init 254 rfl) rfl (wr_lit rfl) (wr_lit rfl) (fun h => absurd h (by decide)) (fun _ => ?_)
  refine j_aloadn (k := 1) (D_Model_init 255 rfl) rfl rfl ?_
  refine j_getR (t := 135) rfl fa_Model_175 kd_81 (by decide) (by decide) rfl (fun _ => by decide +kernel) (by decide) (D_Model_init 256 rfl) ?_
  refine j_iloadn (k := 0) (D_Model_init 257 rfl) rfl rfl ?_
  refine j_bipush (v := (-2)) (D_Model_init 258 rfl) rfl ?_
  refine j_iast (NI := 120) (D_Model_init 259 rfl) kd_135 (by decide) (wr_lit rfl) rfl (by decide) (by decide) ?_
  refine j_iinc (k := 0) (x' := 87) (L' := [(1, vi 87), (0, rf X 81)]) (D_Model_init 260 rfl) rfl (by decide +kernel) (by decide) rfl ?_
  refine j_goto (tgt := 497) (D_Model_init 261 rfl) rfl ?_
  refine j_iloadn (k := 0) (D_Model_init 252 rfl) rfl rfl ?_
  refine j_bipush (v := 120) (D_Model_init 253 rfl) rfl ?_
  refine j_ic_ge (tgt := 517) (D_Model_init 254 rfl) rfl (wr_lit rfl) (wr_lit rfl) (fun h => absurd h (by decide)) (fun _ => ?_)
  refine j_aloadn (k := 1) (D_Model_init 255 rfl) rfl rfl ?_
  refine j_getR (t := 135) rfl fa_Model_175 kd_81 (by decide) (by decide) rfl (fun _ => by decide +kernel) (by decide) (D_Model_init 256 rfl) ?_
  refine j_iloadn (k := 0) (D_Model_init 257 rfl) rfl rfl ?_
  refine j_bipush (v := (-2)) (D_Model_init 258 rfl) rfl ?_
  refine j_iast (NI := 120) (D_Model_init 259 rfl) kd_135 (by decide) (wr_lit rfl) rfl (by decide) (by decide) ?_
  refine j_iinc (k := 0) (x' := 88) (L' := [(1, vi 88), (0, rf X 81)]) (D_Model_init 260 rfl) rfl (by decide +kernel) (by decide) rfl ?_
  refine j_goto (tgt := 497) (D_Model_init 261 rfl) rfl ?_
  refine j_iloadn (k := 0) (D_Model_init 252 rfl) rfl rfl ?_
  refine j_bipush (v := 120) (D_Model_init 253 rfl) rfl ?_
  refine j_ic_ge (tgt := 517) (D_Model_init 254 rfl) rfl (wr_lit rfl) (wr_lit rfl) (fun h => absurd h (by decide)) (fun _ => ?_)
  refine j_aloadn (k := 1) (D_Model_init 255 rfl) rfl rfl ?_
  refine j_getR (t := 135) rfl fa_Model_175 kd_81 (by decide) (by decide) rfl (fun _ => by decide +kernel) (by decide) (D_Model_init 256 rfl) ?_
  refine j_iloadn (k := 0) (D_Model_init 257 rfl) rfl rfl ?_
  refine j_bipush (v := (-2)) (D_Model_init 258 rfl) rfl ?_
  refine j_iast (NI := 120) (D_Model_init 259 rfl) kd_135 (by decide) (wr_lit rfl) rfl (by decide) (by decide) ?_
  refine j_iinc (k := 0) (x' := 89) (L' := [(1, vi 89), (0, rf X 81)]) (D_Model_init 260 rfl) rfl (by decide +kernel) (by decide) rfl ?_
  refine j_goto (tgt := 497) (D_Model_init 261 rfl) rfl ?_
  refine j_iloadn (k := 0) (D_Model_init 252 rfl) rfl rfl ?_
  refine j_bipush (v := 120) (D_Model_init 253 rfl) rfl ?_
  refine j_ic_ge (tgt := 517) (D_Model_init 254 rfl) rfl (wr_lit rfl) (wr_lit rfl) (fun h => absurd h (by decide)) (fun _ => ?_)
  refine j_aloadn (k := 1) (D_Model_init 255 rfl) rfl rfl ?_
  refine j_getR (t := 135) rfl fa_Model_175 kd_81 (by decide) (by decide) rfl (fun _ => by decide +kernel) (by decide) (D_Model_init 256 rfl) ?_
  refine j_iloadn (k := 0) (D_Model_init 257 rfl) rfl rfl ?_
  refine j_bipush (v := (-2)) (D_Model_init 258 rfl) rfl ?_
  refine j_iast (NI := 120) (D_Model_init 259 rfl) kd_135 (by decide) (wr_lit rfl) rfl (by decide) (by decide) ?_
  refine j_iinc (k := 0) (x' := 90) (L' := [(1, vi 90), (0, rf X 81)]) (D_Model_init 260 rfl) rfl (by decide +kernel) (by decide) rfl ?_
  refine j_goto (tgt := 497) (D_Model_init 261 rfl) rfl ?_
  refine j_iloadn (k := 0) (D_Model_init 252 rfl) rfl rfl ?_
  refine j_bipush (v := 120) (D_Model_init 253 rfl) rfl ?_
  refine j_ic_ge (tgt := 517) (D_Model_init 254 rfl) rfl (wr_lit rfl) (wr_lit rfl) (fun h => absurd h (by decide)) (fun _ => ?_)
  refine j_aloadn (k := 1) (D_Model_init 255 rfl) rfl rfl ?_
  refine j_getR (t := 135) rfl fa_Model_175 kd_81 (by decide) (by decide) rfl (fun _ => by decide +kernel) (by decide) (D_Model_init 256 rfl) ?_
  refine j_iloadn (k := 0) (D_Model_init 257 rfl) rfl rfl ?_
  refine j_bipush (v := (-2)) (D_Model_init 258 rfl) rfl ?_
  refine j_iast (NI := 120) (D_Model_init 259 rfl) kd_135 (by decide) (wr_lit rfl) rfl (by decide) (by decide) ?_
  refine j_iinc (k := 0) (x' := 91) (L' := [(1, vi 91), (0, rf X 81)]) (D_Model_init 260 rfl) rfl (by decide +kernel) (by decide) rfl ?_
  refine j_goto (tgt := 497) (D_Model_init 261 rfl) rfl ?_
  refine j_iloadn (k := 0) (D_Model_init 252 rfl) rfl rfl ?_
  refine j_bipush (v := 120) (D_Model_init 253 rfl) rfl ?_
  refine j_ic_ge (tgt := 517) (D_Model_init 254 rfl) rfl (wr_lit rfl) (wr_lit rfl) (fun h => absurd h (by decide)) (fun _ => ?_)
  refine j_aloadn (k := 1) (D_Model_init 255 rfl) rfl rfl ?_
  refine j_getR (t := 135) rfl fa_Model_175 kd_81 (by decide) (by decide) rfl (fun _ => by decide +kernel) (by decide) (D_Model_init 256 rfl) ?_
  refine j_iloadn (k := 0) (D_Model_init 257 rfl) rfl rfl ?_
  refine j_bipush (v := (-2)) (D_Model_init 258 rfl) rfl ?_
  refine j_iast (NI := 120) (D_Model_init 259 rfl) kd_135 (by decide) (wr_lit rfl) rfl (by decide) (by decide) ?_
  refine j_iinc (k := 0) (x' := 92) (L' := [(1, vi 92), (0, rf X 81)]) (D_Model_init 260 rfl) rfl (by decide +kernel) (by decide) rfl ?_
  refine j_goto (tgt := 497) (D_Model_init 261 rfl) rfl ?_
  refine j_iloadn (k := 0) (D_Model_init 252 rfl) rfl rfl ?_
  refine j_bipush (v := 120) (D_Model_init 253 rfl) rfl ?_
  refine j_ic_ge (tgt := 517) (D_Model_init 254 rfl) rfl (wr_lit rfl) (wr_lit rfl) (fun h => absurd h (by decide)) (fun _ => ?_)
  refine j_aloadn (k := 1) (D_Model_init 255 rfl) rfl rfl ?_
  refine j_getR (t := 135) rfl fa_Model_175 kd_81 (by decide) (by decide) rfl (fun _ => by decide +kernel) (by decide) (D_Model_init 256 rfl) ?_
  refine j_iloadn (k := 0) (D_Model_init 257 rfl) rfl rfl ?_
  refine j_bipush (v := (-2)) (D_Model_init 258 rfl) rfl ?_
  refine j_iast (NI := 120) (D_Model_init 259 rfl) kd_135 (by decide) (wr_lit rfl) rfl (by decide) (by decide) ?_
  refine j_iinc (k := 0) (x' := 93) (L' := [(1, vi 93), (0, rf X 81)]) (D_Model_init 260 rfl) rfl (by decide +kernel) (by decide) rfl ?_
  refine j_goto (tgt := 497) (D_Model_init 261 rfl) rfl ?_
  refine j_iloadn (k := 0) (D_Model_init 252 rfl) rfl rfl ?_
  refine j_bipush (v := 120) (D_Model_init 253 rfl) rfl ?_
  refine j_ic_ge (tgt := 517) (D_Model_init 254 rfl) rfl (wr_lit rfl) (wr_lit rfl) (fun h => absurd h (by decide)) (fun _ => ?_)
  refine j_aloadn (k := 1) (D_Model_init 255 rfl) rfl rfl ?_
  refine j_getR (t := 135) rfl fa_Model_175 kd_81 (by decide) (by decide) rfl (fun _ => by decide +kernel) (by decide) (D_Model_init 256 rfl) ?_
  refine j_iloadn (k := 0) (D_Model_init 257 rfl) rfl rfl ?_
  refine j_bipush (v := (-2)) (D_Model_init 258 rfl) rfl ?_
  refine j_iast (NI := 120) (D_Model_init 259 rfl) kd_135 (by decide) (wr_lit rfl) rfl (by decide) (by decide) ?_
  refine j_iinc (k := 0) (x' := 94) (L' := [(1, vi 94), (0, rf X 81)]) (D_Model_init 260 rfl) rfl (by decide +kernel) (by decide) rfl ?_
  refine j_goto (tgt := 497) (D_Model_init 261 rfl) rfl ?_
  refine j_iloadn (k := 0) (D_Model_init 252 rfl) rfl rfl ?_
  refine j_bipush (v := 120) (D_Model_init 253 rfl) rfl ?_
  refine j_ic_ge (tgt := 517) (D_Model_init 254 rfl) rfl (wr_lit rfl) (wr_lit rfl) (fun h => absurd h (by decide)) (fun _ => ?_)
  refine j_aloadn (k := 1) (D_Model_init 255 rfl) rfl rfl ?_
  refine j_getR (t := 135) rfl fa_Model_175 kd_81 (by decide) (by decide) rfl (fun _ => by decide +kernel) (by decide) (D_Model_init 256 rfl) ?_
  refine j_iloadn (k := 0) (D_Model_init 257 rfl) rfl rfl ?_
  refine j_bipush (v := (-2)) (D_Model_init 258 rfl) rfl ?_
  refine j_iast (NI := 120) (D_Model_init 259 rfl) kd_135 (by decide) (wr_lit rfl) rfl (by decide) (by decide) ?_
  refine j_iinc (k := 0) (x' := 95) (L' := [(1, vi 95), (0, rf X 81)]) (D_Model_init 260 rfl) rfl (by decide +kernel) (by decide) rfl ?_
  refine j_goto (tgt := 497) (D_Model_init 261 rfl) rfl ?_
  refine j_iloadn (k := 0) (D_Model_init 252 rfl) rfl rfl ?_
  refine j_bipush (v := 120) (D_Model_init 253 rfl) rfl ?_
  refine j_ic_ge (tgt := 517) (D_Model_init 254 rfl) rfl (wr_lit rfl) (wr_lit rfl) (fun h => absurd h (by decide)) (fun _ => ?_)
  refine j_aloadn (k := 1) (D_Model_init 255 rfl) rfl rfl ?_
  refine j_getR (t := 135) rfl fa_Model_175 kd_81 (by decide) (by decide) rfl (fun _ => by decide +kernel) (by decide) (D_Model_init 256 rfl) ?_
  refine j_iloadn (k := 0) (D_Model_init 257 rfl) rfl rfl ?_
  refine j_bipush (v := (-2)) (D_Model_init 258 rfl) rfl ?_
  refine j_iast (NI := 120) (D_Model_init 259 rfl) kd_135 (by decide) (wr_lit rfl) rfl (by decide) (by decide) ?_
  refine j_iinc (k := 0) (x' := 96) (L' := [(1, vi 96), (0, rf X 81)]) (D_Model_init 260 rfl) rfl (by decide +kernel) (by decide) rfl ?_
  refine j_goto (tgt := 497) (D_Model_init 261 rfl) rfl ?_
  refine j_iloadn (k := 0) (D_Model_init 252 rfl) rfl rfl ?_
  refine j_bipush (v := 120) (D_Model_init 253 rfl) rfl ?_
  refine j_ic_ge (tgt := 517) (D_Model_init 254 rfl) rfl (wr_lit rfl) (wr_lit rfl) (fun h => absurd h (by decide)) (fun _ => ?_)
  refine j_aloadn (k := 1) (D_Model_init 255 rfl) rfl rfl ?_
  refine j_getR (t := 135) rfl fa_Model_175 kd_81 (by decide) (by decide) rfl (fun _ => by decide +kernel) (by decide) (D_Model_init 256 rfl) ?_
  refine j_iloadn (k := 0) (D_Model_init 257 rfl) rfl rfl ?_
  refine j_bipush (v := (-2)) (D_Model_init 258 rfl) rfl ?_
  refine j_iast (NI := 120) (D_Model_init 259 rfl) kd_135 (by decide) (wr_lit rfl) rfl (by decide) (by decide) ?_
  refine j_iinc (k := 0) (x' := 97) (L' := [(1, vi 97), (0, rf X 81)]) (D_Model_init 260 rfl) rfl (by decide +kernel) (by decide) rfl ?_
  refine j_goto (tgt := 497) (D_Model_init 261 rfl) rfl ?_
  refine j_iloadn (k := 0) (D_Model_init 252 rfl) rfl rfl ?_
  refine j_bipush (v := 120) (D_Model_init 253 rfl) rfl ?_
  refine j_ic_ge (tgt := 517) (D_Model_init 254 rfl) rfl (wr_lit rfl) (wr_lit rfl) (fun h => absurd h (by decide)) (fun _ => ?_)
  refine j_aloadn (k := 1) (D_Model_init 255 rfl) rfl rfl ?_
  refine j_getR (t := 135) rfl fa_Model_175 kd_81 (by decide) (by decide) rfl (fun _ => by decide +kernel) (by decide) (D_Model_init 256 rfl) ?_
  refine j_iloadn (k := 0) (D_Model_init 257 rfl) rfl rfl ?_
  refine j_bipush (v := (-2)) (D_Model_init 258 rfl) rfl ?_
  refine j_iast (NI := 120) (D_Model_init 259 rfl) kd_135 (by decide) (wr_lit rfl) rfl (by decide) (by decide) ?_
  refine j_iinc (k := 0) (x' := 98) (L' := [(1, vi 98), (0, rf X 81)]) (D_Model_init 260 rfl) rfl (by decide +kernel) (by decide) rfl ?_
  refine j_goto (tgt := 497) (D_Model_init 261 rfl) rfl ?_
  refine j_iloadn (k := 0) (D_Model_init 252 rfl) rfl rfl ?_
  refine j_bipush (v := 120) (D_Model_init 253 rfl) rfl ?_
  refine j_ic_ge (tgt := 517) (D_Model_init 254 rfl) rfl (wr_lit rfl) (wr_lit rfl) (fun h => absurd h (by decide)) (fun _ => ?_)
  refine j_aloadn (k := 1) (D_Model_init 255 rfl) rfl rfl ?_
  refine j_getR (t := 135) rfl fa_Model_175 kd_81 (by decide) (by decide) rfl (fun _ => by decide +kernel) (by decide) (D_Model_init 256 rfl) ?_
  refine j_iloadn (k := 0) (D_Model_init 257 rfl) rfl rfl ?_
  refine j_bipush (v := (-2)) (D_Model_init 258 rfl) rfl ?_
  refine j_iast (NI := 120) (D_Model_init 259 rfl) kd_135 (by decide) (wr_lit rfl) rfl (by decide) (by decide) ?_
  refine j_iinc (k := 0) (x' := 99) (L' := [(1, vi 99), (0, rf X 81)]) (D_Model_init 260 rfl) rfl (by decide +kernel) (by decide) rfl ?_
  refine j_goto (tgt := 497) (D_Model_init 261 rfl) rfl ?_
  refine j_iloadn (k := 0) (D_Model_init 252 rfl) rfl rfl ?_
  refine j_bipush (v := 120) (D_Model_init 253 rfl) rfl ?_
  refine j_ic_ge (tgt := 517) (D_Model_init 254 rfl) rfl (wr_lit rfl) (wr_lit rfl) (fun h => absurd h (by decide)) (fun _ => ?_)
  refine j_aloadn (k := 1) (D_Model_init 255 rfl) rfl rfl ?_
  refine j_getR (t := 135) rfl fa_Model_175 kd_81 (by decide) (by decide) rfl (fun _ => by decide +kernel) (by decide) (D_Model_init 256 rfl) ?_
  refine j_iloadn (k := 0) (D_Model_init 257 rfl) rfl rfl ?_
  refine j_bipush (v := (-2)) (D_Model_init 258 rfl) rfl ?_
  refine j_iast (NI := 120) (D_Model_init 259 rfl) kd_135 (by decide) (wr_lit rfl) rfl (by decide) (by decide) ?_
  refine j_iinc (k := 0) (x' := 100) (L' := [(1, vi 100), (0, rf X 81)]) (D_Model_init 260 rfl) rfl (by decide +kernel) (by decide) rfl ?_
  refine j_goto (tgt := 497) (D_Model_init 261 rfl) rfl ?_
  refine j_iloadn (k := 0) (D_Model_init 252 rfl) rfl rfl ?_
  refine j_bipush (v := 120) (D_Model_init 253 rfl) rfl ?_
  refine j_ic_ge (tgt := 517) (D_Model_init 254 rfl) rfl (wr_lit rfl) (wr_lit rfl) (fun h => absurd h (by decide)) (fun _ => ?_)
  refine j_aloadn (k := 1) (D_Model_init 255 rfl) rfl rfl ?_
  refine j_getR (t := 135) rfl fa_Model_175 kd_81 (by decide) (by decide) rfl (fun _ => by decide +kernel) (by decide) (D_Model_init 256 rfl) ?_
  refine j_iloadn (k := 0) (D_Model_init 257 rfl) rfl rfl ?_
  refine j_bipush (v := (-2)) (D_Model_init 258 rfl) rfl ?_
  refine j_iast (NI := 120) (D_Model_init 259 rfl) kd_135 (by decide) (wr_lit rfl) rfl (by decide) (by decide) ?_
  refine j_iinc (k := 0) (x' := 101) (L' := [(1, vi 101), (0, rf X 81)]) (D_Model_init 260 rfl) rfl (by decide +kernel) (by decide) rfl ?_
  refine j_goto (tgt := 497) (D_Model_init 261 rfl) rfl ?_
  refine j_iloadn (k := 0) (D_Model_init 252 rfl) rfl rfl ?_
  refine j_bipush (v := 120) (D_Model_init 253 rfl) rfl ?_
  refine j_ic_ge (tgt := 517) (D_Model_init 254 rfl) rfl (wr_lit rfl) (wr_lit rfl) (fun h => absurd h (by decide)) (fun _ => ?_)
  refine j_aloadn (k := 1) (D_Model_init 255 rfl) rfl rfl ?_
  refine j_getR (t := 135) rfl fa_Model_175 kd_81 (by decide) (by decide) rfl (fun _ => by decide +kernel) (by decide) (D_Model_init 256 rfl) ?_
  refine j_iloadn (k := 0) (D_Model_init 257 rfl) rfl rfl ?_
  refine j_bipush (v := (-2)) (D_Model_init 258 rfl) rfl ?_
  refine j_iast (NI := 120) (D_Model_init 259 rfl) kd_135 (by decide) (wr_lit rfl) rfl (by decide) (by decide) ?_
  refine j_iinc (k := 0) (x' := 102) (L' := [(1, vi 102), (0, rf X 81)]) (D_Model_init 260 rfl) rfl (by decide +kernel) (by decide) rfl ?_
  refine j_goto (tgt := 497) (D_Model_init 261 rfl) rfl ?_
  refine j_iloadn (k := 0) (D_Model_init 252 rfl) rfl rfl ?_
  refine j_bipush (v := 120) (D_Model_init 253 rfl) rfl ?_
  refine j_ic_ge (tgt := 517) (D_Model_init 254 rfl) rfl (wr_lit rfl) (wr_lit rfl) (fun h => absurd h (by decide)) (fun _ => ?_)
  refine j_aloadn (k := 1) (D_Model_init 255 rfl) rfl rfl ?_
  refine j_getR (t := 135) rfl fa_Model_175 kd_81 (by decide) (by decide) rfl (fun _ => by decide +kernel) (by decide) (D_Model_init 256 rfl) ?_
  refine j_iloadn (k := 0) (D_Model_init 257 rfl) rfl rfl ?_
  refine j_bipush (v := (-2)) (D_Model_init 258 rfl) rfl ?_
  refine j_iast (NI := 120) (D_Model_init 259 rfl) kd_135 (by decide) (wr_lit rfl) rfl (by decide) (by decide) ?_
  refine j_iinc (k := 0) (x' := 103) (L' := [(1, vi 103), (0, rf X 81)]) (D_Model_init 260 rfl) rfl (by decide +kernel) (by decide) rfl ?_
  refine j_goto (tgt := 497) (D_Model_init 261 rfl) rfl ?_
  refine j_iloadn (k := 0) (D_Model_init 252 rfl) rfl rfl ?_
  refine j_bipush (v := 120) (D_Model_init 253 rfl) rfl ?_
  refine j_ic_ge (tgt := 517) (D_Model_init 254 rfl) rfl (wr_lit rfl) (wr_lit rfl) (fun h => absurd h (by decide)) (fun _ => ?_)
  refine j_aloadn (k := 1) (D_Model_init 255 rfl) rfl rfl ?_
  refine j_getR (t := 135) rfl fa_Model_175 kd_81 (by decide) (by decide) rfl (fun _ => by decide +kernel) (by decide) (D_Model_init 256 rfl) ?_
  refine j_iloadn (k := 0) (D_Model_init 257 rfl) rfl rfl ?_
  refine j_bipush (v := (-2)) (D_Model_init 258 rfl) rfl ?_
  refine j_iast (NI := 120) (D_Model_init 259 rfl) kd_135 (by decide) (wr_lit rfl) rfl (by decide) (by decide) ?_
  refine j_iinc (k := 0) (x' := 104) (L' := [(1, vi 104), (0, rf X 81)]) (D_Model_init 260 rfl) rfl (by decide +kernel) (by decide) rfl ?_
  refine j_goto (tgt := 497) (D_Model_init 261 rfl) rfl ?_
  refine j_iloadn (k := 0) (D_Model_init 252 rfl) rfl rfl ?_
  refine j_bipush (v := 120) (D_Model_init 253 rfl) rfl ?_
  refine j_ic_ge (tgt := 517) (D_Model_init 254 rfl) rfl (wr_lit rfl) (wr_lit rfl) (fun h => absurd h (by decide)) (fun _ => ?_)
  refine j_aloadn (k := 1) (D_Model_init 255 rfl) rfl rfl ?_
  refine j_getR (t := 135) rfl fa_Model_175 kd_81 (by decide) (by decide) rfl (fun _ => by decide +kernel) (by decide) (D_Model_init 256 rfl) ?_
  refine j_iloadn (k := 0) (D_Model_init 257 rfl) rfl rfl ?_
  refine j_bipush (v := (-2)) (D_Model_init 258 rfl) rfl ?_
  refine j_iast (NI := 120) (D_Model_init 259 rfl) kd_135 (by decide) (wr_lit rfl) rfl (by decide) (by decide) ?_
  refine j_iinc (k := 0) (x' := 105) (L' := [(1, vi 105), (0, rf X 81)]) (D_Model_init 260 rfl) rfl (by decide +kernel) (by decide) rfl ?_
  refine j_goto (tgt := 497) (D_Model_init 261 rfl) rfl ?_
  refine j_iloadn (k := 0) (D_Model_init 252 rfl) rfl rfl ?_
  refine j_bipush (v := 120) (D_Model_init 253 rfl) rfl ?_
  refine j_ic_ge (tgt := 517) (D_Model_init 254 rfl) rfl (wr_lit rfl) (wr_lit rfl) (fun h => absurd h (by decide)) (fun _ => ?_)
  refine j_aloadn (k := 1) (D_Model_init 255 rfl) rfl rfl ?_
  refine j_getR (t := 135) rfl fa_Model_175 kd_81 (by decide) (by decide) rfl (fun _ => by decide +kernel) (by decide) (D_Model_init 256 rfl) ?_
  refine j_iloadn (k := 0) (D_Model_init 257 rfl) rfl rfl ?_
  refine j_bipush (v := (-2)) (D_Model_init 258 rfl) rfl ?_
  refine j_iast (NI := 120) (D_Model_init 259 rfl) kd_135 (by decide) (wr_lit rfl) rfl (by decide) (by decide) ?_
  refine j_iinc (k := 0) (x' := 106) (L' := [(1, vi 106), (0, rf X 81)]) (D_Model_init 260 rfl) rfl (by decide +kernel) (by decide) rfl ?_
  refine j_goto (tgt := 497) (D_Model_init 261 rfl) rfl ?_
  refine j_iloadn (k := 0) (D_Model_init 252 rfl) rfl rfl ?_
  refine j_bipush (v := 120) (D_Model_init 253 rfl) rfl ?_
  refine j_ic_ge (tgt := 517) (D_Model_init 254 rfl) rfl (wr_lit rfl) (wr_lit rfl) (fun h => absurd h (by decide)) (fun _ => ?_)
  refine j_aloadn (k := 1) (D_Model_init 255 rfl) rfl rfl ?_
  refine j_getR (t := 135) rfl fa_Model_175 kd_81 (by decide) (by decide) rfl (fun _ => by decide +kernel) (by decide) (D_Model_init 256 rfl) ?_
  refine j_iloadn (k := 0) (D_Model_init 257 rfl) rfl rfl ?_
  refine j_bipush (v := (-2)) (D_Model_init 258 rfl) rfl ?_
  refine j_iast (NI := 120) (D_Model_init 259 rfl) kd_135 (by decide) (wr_lit rfl) rfl (by decide) (by decide) ?_
  refine j_iinc (k := 0) (x' := 107) (L' := [(1, vi 107), (0, rf X 81)]) (D_Model_init 260 rfl) rfl (by decide +kernel) (by decide) rfl ?_
  refine j_goto (tgt := 497) (D_Model_init 261 rfl) rfl ?_
  refine j_iloadn (k := 0) (D_Model_init 252 rfl) rfl rfl ?_
  refine j_bipush (v := 120) (D_Model_init 253 rfl) rfl ?_
  refine j_ic_ge (tgt := 517) (D_Model_init 254 rfl) rfl (wr_lit rfl) (wr_lit rfl) (fun h => absurd h (by decide)) (fun _ => ?_)
  refine j_aloadn (k := 1) (D_Model_init 255 rfl) rfl rfl ?_
  refine j_getR (t := 135) rfl fa_Model_175 kd_81 (by decide) (by decide) rfl (fun _ => by decide +kernel) (by decide) (D_Model_init 256 rfl) ?_
  refine j_iloadn (k := 0) (D_Model_init 257 rfl) rfl rfl ?_
  refine j_bipush (v := (-2)) (D_Model_init 258 rfl) rfl ?_
  refine j_iast (NI := 120) (D_Model_init 259 rfl) kd_135 (by decide) (wr_lit rfl) rfl (by decide) (by decide) ?_
  refine j_iinc (k := 0) (x' := 108) (L' := [(1, vi 108), (0, rf X 81)]) (D_Model_init 260 rfl) rfl (by decide +kernel) (by decide) rfl ?_
  refine j_goto (tgt := 497) (D_Model_init 261 rfl) rfl ?_
  refine j_iloadn (k := 0) (D_Model_init 252 rfl) rfl rfl ?_
  refine j_bipush (v := 120) (D_Model_init 253 rfl) rfl ?_
  refine j_ic_ge (tgt := 517) (D_Model_init 254 rfl) rfl (wr_lit rfl) (wr_lit rfl) (fun h => absurd h (by decide)) (fun _ => ?_)
  refine j_aloadn (k := 1) (D_Model_init 255 rfl) rfl rfl ?_
  refine j_getR (t := 135) rfl fa_Model_175 kd_81 (by decide) (by decide) rfl (fun _ => by decide +kernel) (by decide) (D_Model_init 256 rfl) ?_
  refine j_iloadn (k := 0) (D_Model_init 257 rfl) rfl rfl ?_
  refine j_bipush (v := (-2)) (D_Model_init 258 rfl) rfl ?_
  refine j_iast (NI := 120) (D_Model_init 259 rfl) kd_135 (by decide) (wr_lit rfl) rfl (by decide) (by decide) ?_
  refine j_iinc (k := 0) (x' := 109) (L' := [(1, vi 109), (0, rf X 81)]) (D_Model_init 260 rfl) rfl (by decide +kernel) (by decide) rfl ?_
  refine j_goto (tgt := 497) (D_Model_init 261 rfl) rfl ?_
  refine j_iloadn (k := 0) (D_Model_init 252 rfl) rfl rfl ?_
  refine j_bipush (v := 120) (D_Model_init 253 rfl) rfl ?_
  refine j_ic_ge (tgt := 517) (D_Model_init 254 rfl) rfl (wr_lit rfl) (wr_lit rfl) (fun h => absurd h (by decide)) (fun _ => ?_)
  refine j_aloadn (k := 1) (D_Model_init 255 rfl) rfl rfl ?_
  refine j_getR (t := 135) rfl fa_Model_175 kd_81 (by decide) (by decide) rfl (fun _ => by decide +kernel) (by decide) (D_Model_init 256 rfl) ?_
  refine j_iloadn (k := 0) (D_Model_init 257 rfl) rfl rfl ?_
  refine j_bipush (v := (-2)) (D_Model_init 258 rfl) rfl ?_
  refine j_iast (NI := 120) (D_Model_init 259 rfl) kd_135 (by decide) (wr_lit rfl) rfl (by decide) (by decide) ?_
  refine j_iinc (k := 0) (x' := 110) (L' := [(1, vi 110), (0, rf X 81)]) (D_Model_init 260 rfl) rfl (by decide +kernel) (by decide) rfl ?_
  refine j_goto (tgt := 497) (D_Model_init 261 rfl) rfl ?_
  refine j_iloadn (k := 0) (D_Model_init 252 rfl) rfl rfl ?_
  refine j_bipush (v := 120) (D_Model_init 253 rfl) rfl ?_
  refine j_ic_ge (tgt := 517) (D_Model_init 254 rfl) rfl (wr_lit rfl) (wr_lit rfl) (fun h => absurd h (by decide)) (fun _ => ?_)
  refine j_aloadn (k := 1) (D_Model_init 255 rfl) rfl rfl ?_
  refine j_getR (t := 135) rfl fa_Model_175 kd_81 (by decide) (by decide) rfl (fun _ => by decide +kernel) (by decide) (D_Model_init 256 rfl) ?_
  refine j_iloadn (k := 0) (D_Model_init 257 rfl) rfl rfl ?_
  refine j_bipush (v := (-2)) (D_Model_init 258 rfl) rfl ?_
  refine j_iast (NI := 120) (D_Model_init 259 rfl) kd_135 (by decide) (wr_lit rfl) rfl (by decide) (by decide) ?_
  refine j_iinc (k := 0) (x' := 111) (L' := [(1, vi 111), (0, rf X 81)]) (D_Model_init 260 rfl) rfl (by decide +kernel) (by decide) rfl ?_
  refine j_goto (tgt := 497) (D_Model_init 261 rfl) rfl ?_
  refine j_iloadn (k := 0) (D_Model_init 252 rfl) rfl rfl ?_
  refine j_bipush (v := 120) (D_Model_init 253 rfl) rfl ?_
  refine j_ic_ge (tgt := 517) (D_Model_init 254 rfl) rfl (wr_lit rfl) (wr_lit rfl) (fun h => absurd h (by decide)) (fun _ => ?_)
  refine j_aloadn (k := 1) (D_Model_init 255 rfl) rfl rfl ?_
  refine j_getR (t := 135) rfl fa_Model_175 kd_81 (by decide) (by decide) rfl (fun _ => by decide +kernel) (by decide) (D_Model_init 256 rfl) ?_
  refine j_iloadn (k := 0) (D_Model_init 257 rfl) rfl rfl ?_
  refine j_bipush (v := (-2)) (D_Model_init 258 rfl) rfl ?_
  refine j_iast (NI := 120) (D_Model_init 259 rfl) kd_135 (by decide) (wr_lit rfl) rfl (by decide) (by decide) ?_
  refine j_iinc (k := 0) (x' := 112) (L' := [(1, vi 112), (0, rf X 81)]) (D_Model_init 260 rfl) rfl (by decide +kernel) (by decide) rfl ?_
  refine j_goto (tgt := 497) (D_Model_init 261 rfl) rfl ?_
  refine j_iloadn (k := 0) (D_Model_init 252 rfl) rfl rfl ?_
  refine j_bipush (v := 120) (D_Model_init 253 rfl) rfl ?_
  refine j_ic_ge (tgt := 517) (D_Model_init 254 rfl) rfl (wr_lit rfl) (wr_lit rfl) (fun h => absurd h (by decide)) (fun _ => ?_)
  refine j_aloadn (k := 1) (D_Model_init 255 rfl) rfl rfl ?_
  refine j_getR (t := 135) rfl fa_Model_175 kd_81 (by decide) (by decide) rfl (fun _ => by decide +kernel) (by decide) (D_Model_init 256 rfl) ?_
  refine j_iloadn (k := 0) (D_Model_init 257 rfl) rfl rfl ?_
  refine j_bipush (v := (-2)) (D_Model_init 258 rfl) rfl ?_
  refine j_iast (NI := 120) (D_Model_init 259 rfl) kd_135 (by decide) (wr_lit rfl) rfl (by decide) (by decide) ?_
  refine j_iinc (k := 0) (x' := 113) (L' := [(1, vi 113), (0, rf X 81)]) (D_Model_init 260 rfl) rfl (by decide +kernel) (by decide) rfl ?_
  refine j_goto (tgt := 497) (D_Model_init 261 rfl) rfl ?_
  refine j_iloadn (k := 0) (D_Model_init 252 rfl) rfl rfl ?_
  refine j_bipush (v := 120) (D_Model_init 253 rfl) rfl ?_
  refine j_ic_ge (tgt := 517) (D_Model_init 254 rfl) rfl (wr_lit rfl) (wr_lit rfl) (fun h => absurd h (by decide)) (fun _ => ?_)
  refine j_aloadn (k := 1) (D_Model_init 255 rfl) rfl rfl ?_
  refine j_getR (t := 135) rfl fa_Model_175 kd_81 (by decide) (by decide) rfl (fun _ => by decide +kernel) (by decide) (D_Model_init 256 rfl) ?_
  refine j_iloadn (k := 0) (D_Model_init 257 rfl) rfl rfl ?_
  refine j_bipush (v := (-2)) (D_Model_init 258 rfl) rfl ?_
  refine j_iast (NI := 120) (D_Model_init 259 rfl) kd_135 (by decide) (wr_lit rfl) rfl (by decide) (by decide) ?_
  refine j_iinc (k := 0) (x' := 114) (L' := [(1, vi 114), (0, rf X 81)]) (D_Model_init 260 rfl) rfl (by decide +kernel) (by decide) rfl ?_
  refine j_goto (tgt := 497) (D_Model_init 261 rfl) rfl ?_
  refine j_iloadn (k := 0) (D_Model_init 252 rfl) rfl rfl ?_
  refine j_bipush (v := 120) (D_Model_init 253 rfl) rfl ?_
  refine j_ic_ge (tgt := 517) (D_Model_init 254 rfl) rfl (wr_lit rfl) (wr_lit rfl) (fun h => absurd h (by decide)) (fun _ => ?_)
  refine j_aloadn (k := 1) (D_Model_init 255 rfl) rfl rfl ?_
  refine j_getR (t := 135) rfl fa_Model_175 kd_81 (by decide) (by decide) rfl (fun _ => by decide +kernel) (by decide) (D_Model_init 256 rfl) ?_
  refine j_iloadn (k := 0) (D_Model_init 257 rfl) rfl rfl ?_
  refine j_bipush (v := (-2)) (D_Model_init 258 rfl) rfl ?_
  refine j_iast (NI := 120) (D_Model_init 259 rfl) kd_135 (by decide) (wr_lit rfl) rfl (by decide) (by decide) ?_
  refine j_iinc (k := 0) (x' := 115) (L' := [(1, vi 115), (0, rf X 81)]) (D_Model_init 260 rfl) rfl (by decide +kernel) (by decide) rfl ?_
  refine j_goto (tgt := 497) (D_Model_init 261 rfl) rfl ?_
  refine j_iloadn (k := 0) (D_Model_init 252 rfl) rfl rfl ?_
  refine j_bipush (v := 120) (D_Model_init 253 rfl) rfl ?_
  refine j_ic_ge (tgt := 517) (D_Model_init 254 rfl) rfl (wr_lit rfl) (wr_lit rfl) (fun h => absurd h (by decide)) (fun _ => ?_)
  refine j_aloadn (k := 1) (D_Model_init 255 rfl) rfl rfl ?_
  refine j_getR (t := 135) rfl fa_Model_175 kd_81 (by decide) (by decide) rfl (fun _ => by decide +kernel) (by decide) (D_Model_init 256 rfl) ?_
  refine j_iloadn (k := 0) (D_Model_init 257 rfl) rfl rfl ?_
  refine j_bipush (v := (-2)) (D_Model_init 258 rfl) rfl ?_
  refine j_iast (NI := 120) (D_Model_init 259 rfl) kd_135 (by decide) (wr_lit rfl) rfl (by decide) (by decide) ?_
  refine j_iinc (k := 0) (x' := 116) (L' := [(1, vi 116), (0, rf X 81)]) (D_Model_init 260 rfl) rfl (by decide +kernel) (by decide) rfl ?_
  refine j_goto (tgt := 497) (D_Model_init 261 rfl) rfl ?_
  refine j_iloadn (k := 0) (D_Model_init 252 rfl) rfl rfl ?_
  refine j_bipush (v := 120) (D_Model_init 253 rfl) rfl ?_
  refine j_ic_ge (tgt := 517) (D_Model_init 254 rfl) rfl (wr_lit rfl) (wr_lit rfl) (fun h => absurd h (by decide)) (fun _ => ?_)
  refine j_aloadn (k := 1) (D_Model_init 255 rfl) rfl rfl ?_
  refine j_getR (t := 135) rfl fa_Model_175 kd_81 (by decide) (by decide) rfl (fun _ => by decide +kernel) (by decide) (D_Model_init 256 rfl) ?_
  refine j_iloadn (k := 0) (D_Model_init 257 rfl) rfl rfl ?_
  refine j_bipush (v := (-2)) (D_Model_init 258 rfl) rfl ?_
  refine j_iast (NI := 120) (D_Model_init 259 rfl) kd_135 (by decide) (wr_lit rfl) rfl (by decide) (by decide) ?_
  refine j_iinc (k := 0) (x' := 117) (L' := [(1, vi 117), (0, rf X 81)]) (D_Model_init 260 rfl) rfl (by decide +kernel) (by decide) rfl ?_
  refine j_goto (tgt := 497) (D_Model_init 261 rfl) rfl ?_
  refine j_iloadn (k := 0) (D_Model_init 252 rfl) rfl rfl ?_
  refine j_bipush (v := 120) (D_Model_init 253 rfl) rfl ?_
  refine j_ic_ge (tgt := 517) (D_Model_init 254 rfl) rfl (wr_lit rfl) (wr_lit rfl) (fun h => absurd h (by decide)) (fun _ => ?_)
  refine j_aloadn (k := 1) (D_Model_init 255 rfl) rfl rfl ?_
  refine j_getR (t := 135) rfl fa_Model_175 kd_81 (by decide) (by decide) rfl (fun _ => by decide +kernel) (by decide) (D_Model_init 256 rfl) ?_
  refine j_iloadn (k := 0) (D_Model_init 257 rfl) rfl rfl ?_
  refine j_bipush (v := (-2)) (D_Model_init 258 rfl) rfl ?_
  refine j_iast (NI := 120) (D_Model_init 259 rfl) kd_135 (by decide) (wr_lit rfl) rfl (by decide) (by decide) ?_
  refine j_iinc (k := 0) (x' := 118) (L' := [(1, vi 118), (0, rf X 81)]) (D_Model_init 260 rfl) rfl (by decide +kernel) (by decide) rfl ?_
  refine j_goto (tgt := 497) (D_Model_init 261 rfl) rfl ?_
  refine j_iloadn (k := 0) (D_Model_init 252 rfl) rfl rfl ?_
  refine j_bipush (v := 120) (D_Model_init 253 rfl) rfl ?_
  refine j_ic_ge (tgt := 517) (D_Model_init 254 rfl) rfl (wr_lit rfl) (wr_lit rfl) (fun h => absurd h (by decide)) (fun _ => ?_)
  refine j_aloadn (k := 1) (D_Model_init 255 rfl) rfl rfl ?_
  refine j_getR (t := 135) rfl fa_Model_175 kd_81 (by decide) (by decide) rfl (fun _ => by decide +kernel) (by decide) (D_Model_init 256 rfl) ?_
  refine j_iloadn (k := 0) (D_Model_init 257 rfl) rfl rfl ?_
  refine j_bipush (v := (-2)) (D_Model_init 258 rfl) rfl ?_
  refine j_iast (NI := 120) (D_Model_init 259 rfl) kd_135 (by decide) (wr_lit rfl) rfl (by decide) (by decide) ?_
  refine j_iinc (k := 0) (x' := 119) (L' := [(1, vi 119), (0, rf X 81)]) (D_Model_init 260 rfl) rfl (by decide +kernel) (by decide) rfl ?_
  refine j_goto (tgt := 497) (D_Model_init 261 rfl) rfl ?_
  refine j_iloadn (k := 0) (D_Model_init 252 rfl) rfl rfl ?_
  refine j_bipush (v := 120) (D_Model_init 253 rfl) rfl ?_
  refine j_ic_ge (tgt := 517) (D_Model_init 254 rfl) rfl (wr_lit rfl) (wr_lit rfl) (fun h => absurd h (by decide)) (fun _ => ?_)
  refine j_aloadn (k := 1) (D_Model_init 255 rfl) rfl rfl ?_
  refine j_getR (t := 135) rfl fa_Model_175 kd_81 (by decide) (by decide) rfl (fun _ => by decide +kernel) (by decide) (D_Model_init 256 rfl) ?_
  refine j_iloadn (k := 0) (D_Model_init 257 rfl) rfl rfl ?_
  refine j_bipush (v := (-2)) (D_Model_init 258 rfl) rfl ?_
  refine j_iast (NI := 120) (D_Model_init 259 rfl) kd_135 (by decide) (wr_lit rfl) rfl (by decide) (by decide) ?_
  refine j_iinc (k := 0) (x' := 120) (L' := [(1, vi 120), (0, rf X 81)]) (D_Model_init 260 rfl) rfl (by decide +kernel) (by decide) rfl ?_
  refine j_goto (tgt := 497) (D_Model_init 261 rfl) rfl ?_
  refine j_iloadn (k := 0) (D_Model_init 252 rfl) rfl rfl ?_
  refine j_bipush (v := 120) (D_Model_init 253 rfl) rfl ?_
  refine j_ic_ge (tgt := 517) (D_Model_init 254 rfl) rfl (wr_lit rfl) (wr_lit rfl) (fun _ => ?_) (fun h => absurd (by decide) h)
  exact j_vret (D_Model_init 262 rfl) rfl rfl rfl ⟨rfl, rfl, rfl⟩
