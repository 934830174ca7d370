/-! printed by wip/whole/law.py -/
theorem cl_Lawm_7 : Cond.classLink "InquestHallLaw" 7 "InquestHall" ∈ TS := mTS (List.mem_of_getElem? (i := 142) (by decide +kernel)) (by decide +kernel)
theorem df_Hall : ∀ j, j < 15 → defaultValue (T_Hall j) = dfl 0 j := by decide +kernel
theorem iw_Hall : Cond.instantiable "InquestHall" 15 ∈ TS ∧ Cond.initialized "InquestHall" ∈ TS := ⟨mTS (List.mem_of_getElem? (i := 143) (by decide +kernel)) (by decide +kernel), mTS (List.mem_of_getElem? (i := 122) (by decide +kernel)) (by decide +kernel)⟩
theorem lk_Lawm_9 : Cond.methodLink "InquestHallLaw" 9 M_Hall_init.1 ∈ TS := mTS (List.mem_of_getElem? (i := 144) (by decide +kernel)) (by decide +kernel)
theorem iok_Hall_init : IOK M_Hall_init 0 := ⟨mTS (List.mem_of_getElem? (i := 145) (by decide +kernel)) (by decide +kernel), rfl, rfl, mTS (List.mem_of_getElem? (i := 122) (by decide +kernel)) (by decide +kernel), cw_Hall_init, ⟨by decide, by decide, by decide +kernel⟩, by decide +kernel, by decide⟩
theorem cl_Lawm_10 : Cond.classLink "InquestHallLaw" 10 "InquestHallModel" ∈ TS := mTS (List.mem_of_getElem? (i := 1291) (by decide +kernel)) (by decide +kernel)
theorem df_Model : ∀ j, j < 87 → defaultValue (T_Model j) = dfl 12 j := by decide +kernel
theorem iw_Model : Cond.instantiable "InquestHallModel" 87 ∈ TS ∧ Cond.initialized "InquestHallModel" ∈ TS := ⟨mTS (List.mem_of_getElem? (i := 1292) (by decide +kernel)) (by decide +kernel), mTS (List.mem_of_getElem? (i := 139) (by decide +kernel)) (by decide +kernel)⟩
theorem lk_Lawm_12 : Cond.methodLink "InquestHallLaw" 12 M_Model_init.1 ∈ TS := mTS (List.mem_of_getElem? (i := 1293) (by decide +kernel)) (by decide +kernel)
theorem iok_Model_init : IOK M_Model_init 0 := ⟨mTS (List.mem_of_getElem? (i := 1294) (by decide +kernel)) (by decide +kernel), rfl, rfl, mTS (List.mem_of_getElem? (i := 139) (by decide +kernel)) (by decide +kernel), cw_Model_init, ⟨by decide, by decide, by decide +kernel⟩, by decide +kernel, by decide⟩
/-! the tables and the texts at the law's start (printed by wip/whole/mk32.py) -/
def strI : List (List Nat) := [[9, 10, 11, 12, 13, 14, 15, 16, 17, 18, 19, 20, 21, 22, 23, 24, 25, 26, 27, 28, 29, 30, 31, 32, 33, 34, 35, 36, 37, 38, 39, 40, 41, 42, 43, 44, 45, 46, 47, 48, 49, 50, 51, 52, 53, 54, 55, 56, 57, 58, 59, 60, 61, 62, 63, 64, 65, 66, 67, 68, 69, 70, 71, 72, 73, 74, 75, 76, 77, 78, 79, 80, 81, 82, 83, 84, 85, 86, 87, 88, 89, 90, 91, 92, 93, 94, 95, 96, 97, 98, 99, 100, 101, 102, 103, 104, 105, 106, 107, 108, 109, 110, 111, 112, 113, 114, 115, 116, 117, 118, 119, 120, 121, 122, 123, 124, 125, 126, 127, 128, 129, 130, 131, 132, 133, 134, 135, 136, 137, 138, 139, 140, 141, 142, 143, 144, 145, 146, 147, 148, 149, 150, 151, 152, 153, 154, 155, 156, 157, 158, 159, 160, 161, 162, 163, 164, 165, 166, 167, 168, 169, 170, 171, 172, 173, 174, 175, 176, 177, 178, 179, 180, 181, 182, 183, 184, 185, 186, 187, 188, 189, 190, 191, 192, 193, 194, 195, 196, 197, 198, 199, 200, 201, 202, 203, 204, 205, 206, 207, 208, 209, 210, 211], [212, 213, 214, 215, 216, 217, 218, 219, 220], [221, 222, 223, 224, 225, 226, 227, 228], [229, 230, 231, 232, 233, 234, 235, 236, 237], [238, 239, 240, 241, 242, 243, 244, 245], [246, 247, 248, 249, 250, 251, 252, 253, 254, 255, 256, 257], [258, 259, 260, 261, 262, 263, 264, 265, 266, 267], [268, 269, 270, 271, 272, 273, 274, 275], [276, 277, 278, 279, 280, 281], [282, 283, 284, 285, 286, 287, 288, 289, 290], [291, 292, 293, 294, 295, 296, 297, 298], [299, 300, 301, 302, 303, 304], [305, 306, 307, 308, 309, 310], [311, 312, 313, 314, 315, 316, 317, 318], [319, 320, 321, 322, 323, 324], [325, 326, 327, 328, 329, 330, 331], [332, 333, 334, 335, 336, 337, 338], [339, 340, 341, 342, 343, 344, 345, 346], [347, 348, 349, 350, 351, 352, 353], [354, 355, 356, 357, 358, 359, 360, 361, 362, 363], [364, 365, 366, 367, 368, 369, 370, 371, 372, 373, 374, 375], [376, 377, 378, 379, 380, 381, 382], [383, 384, 385, 386, 387, 388, 389, 390, 391, 392], [393, 394, 395, 396, 397, 398, 399, 400, 401, 402], [403, 404, 405, 406, 407, 408, 409, 410, 411, 412, 413, 414, 415], [416, 417, 418, 419, 420, 421, 422, 423, 424], [425, 426, 427, 428, 429, 430, 431, 432, 433], [434, 435, 436, 437, 438, 439, 440, 441, 442], [443, 444, 445, 446, 447, 448, 449, 450, 451, 452, 453], [454, 455, 456, 457, 458, 459, 460], [461, 462, 463, 464, 465, 466, 467, 468, 469], [470, 471, 472, 473, 474, 475, 476, 477, 478, 479], [480, 481, 482, 483, 484, 485, 486, 487, 488], [489, 490, 491, 492, 493, 494, 495, 496], [497, 498, 499, 500, 501, 502, 503, 504, 505], [506, 507, 508, 509, 510, 511], [512, 513, 514, 515, 516, 517, 518]]
def tmS (i : Nat) : Term := match strL[i]? with
  | some q => .string q.1 q.2.1
  | none => .arg 0
def strW (i : Nat) : List Cond := [Cond.exactly (tmS i) "java/lang/String", Cond.eq (.field (tmS i) "java/lang/String" "coder" "B") (.int 0), Cond.arrayOf (.field (tmS i) "java/lang/String" "value" "[B") .byte, Cond.eq (.length (.field (tmS i) "java/lang/String" "value" "[B")) (.int (Int32.ofNat (lenS.getD i 0)))] ++ (List.range (lenS.getD i 0)).map (fun j => Cond.eq (.elem (.field (tmS i) "java/lang/String" "value" "[B") (.int (Int32.ofNat j))) (.int ((bytS.getD i []).getD j 0)))
def flatL : List Cond := flatC (Jvm.Cond.and given_1 narrow_1)
set_option maxRecDepth 100000 in
theorem strW_at : ∀ i, i < 37 → (strI.getD i []).map (fun k => flatL[k]?) = (strW i).map some := by decide +kernel
theorem strL_in : ∀ q ∈ strL, Cond.stringRef q.1 q.2.1 q.2.2 ∈ lw_tbl := by decide +kernel
theorem known_of {s : State} {args : Array Value} {ci : Nat} {C : String} {T : u_T} {N : Nat} {ty : Nat → FieldType} (hts : ∀ w ∈ TS, w.before args s = true) (hok : ClsOK ci C T N ty) (hi : Cond.instantiable C N ∈ TS) : ∃ z : ClassId × (Nat → Nat), u_Kn s C T N z.1 z.2 := by
  obtain ⟨c, iS, h⟩ := u_known (ws := TS) hts hok.2.1 (hts _ hi)
  exact ⟨(c, iS), h⟩
theorem arr_of {s : State} {args : Array Value} {τ : FieldType} (h : (Cond.arrayClass τ).before args s = true) (hra : ∀ (U : State) (c : ClassId), U.vm.findClass ("[" ++ τ.toString) = some c → va_RA U c τ) : ∃ cA : ClassId, ArrOfT s cA τ ∧ va_RA s cA τ := by
  obtain ⟨cA, kA, comp, f1, f2, f3⟩ := Cond.arrayClass_spec h
  exact ⟨cA, fun n z => ⟨(fun k h => by cases h), kA, f2, comp, f3⟩, hra s cA f1⟩
theorem arr_ofL {s : State} {args : Array Value} (h : (Cond.arrayOver (.object "InquestHall$Law")).before args s = true) : ∃ cA : ClassId, ArrOfT s cA (.object "InquestHall$Law") ∧ va_RA s cA (.object "InquestHall$Law") := by
  obtain ⟨comp, c, k, h1, h2, h3, h4, h5⟩ := Cond.arrayOver_spec h
  exact ⟨c, fun n z => ⟨(fun k h => by cases h), k, h3, comp, h4⟩, k, comp, h3, h4, h1, h5⟩
theorem str_of {s : State} {args : Array Value} {A : Nat → Prop} (hfl : ∀ w ∈ flatL, w.before args s = true) (hA : ∀ a : Nat, a < s.heap.size → ¬ A a) (i : Nat) (hi : i < 37) : ∃ q : Nat × Nat, vk_S 1 [lenS.getD i 0] [bytS.getD i []] (fun _ => q.1) (fun _ => q.2) A s s.heap ∧ (tmS i).eval args s none [] s = some (.ref q.1) := by
  have hw : ∀ w ∈ strW i, w.before args s = true := fun w h => hfl w (memBy (strI.getD i []) (strW_at i hi) w h)
  have hlen := lenS_small i hi
  have hel : ∀ j, j < lenS.getD i 0 → (Cond.eq (.elem (.field (tmS i) "java/lang/String" "value" "[B") (.int (Int32.ofNat j))) (.int ((bytS.getD i []).getD j 0))).before args s = true := fun j hj => hw _ (List.mem_append_right _ (List.mem_map.mpr ⟨j, List.mem_range.mpr hj, rfl⟩))
  obtain ⟨adK, adV, h1, h2⟩ := vk_Sof (N := 1) (tm := fun _ => tmS i) (len := [lenS.getD i 0]) (byt := [bytS.getD i []]) (args := args) (s := s) (A := A)
    (fun k hk => by have : k = 0 := by omega
                    subst this; show lenS.getD i 0 < 2 ^ 31; omega)
    (fun k hk => hw _ (by simp [strW])) (fun k hk => hw _ (by simp [strW])) (fun k hk => hw _ (by simp [strW]))
    (fun k hk => by have : k = 0 := by omega
                    subst this; exact hw _ (by simp [strW]))
    (fun k hk j hj => by have : k = 0 := by omega
                         subst this; exact hel j hj)
    (fun a b ha hb hab => by omega) hA
  refine ⟨(adK 0, adV 0), ⟨fun k hk => ?_, fun a b ha hb _ => by omega⟩, h2 0 (by decide)⟩
  have : k = 0 := by omega
  subst this
  exact h1.1 0 hk
theorem law_K {s : State} {b : Nat} (hts : ∀ w ∈ lw_tbl, w.before #[Value.ref b] s = true) (hgv : (Jvm.Cond.and given_1 narrow_1).before #[Value.ref b] s = true) : ∃ X : XT, X.1 = s.heap.size ∧ va_K X.2.1 clsL (tysX X) s ∧ StrOK X s := by
  have htT : ∀ w ∈ TS, w.before #[Value.ref b] s = true := fun w hw => hts w (TSm hw).1
  have hfl : ∀ w ∈ flatL, w.before #[Value.ref b] s = true := flat_of_before _ hgv
  have hA : ∀ a : Nat, a < s.heap.size → ¬ (fun q : Nat => s.heap.size ≤ q) a := fun a h => by show ¬ s.heap.size ≤ a; omega
  have hcl : ∀ k : Nat, ∃ z : ClassId × (Nat → Nat), ∀ q, clsL[k]? = some q → u_Kn s q.1 q.2.1 q.2.2 z.1 z.2 := by
    intro k
    match k with
    | 0 => obtain ⟨z, h⟩ := known_of htT ok_Hall iw_Hall.1; exact ⟨z, fun q hq => by cases hq; exact h⟩
    | 1 => obtain ⟨z, h⟩ := known_of htT ok_People iw_People.1; exact ⟨z, fun q hq => by cases hq; exact h⟩
    | 2 => obtain ⟨z, h⟩ := known_of htT ok_Lands iw_Lands.1; exact ⟨z, fun q hq => by cases hq; exact h⟩
    | 3 => obtain ⟨z, h⟩ := known_of htT ok_Text iw_Text.1; exact ⟨z, fun q hq => by cases hq; exact h⟩
    | 4 => obtain ⟨z, h⟩ := known_of htT ok_LawReader iw_LawReader.1; exact ⟨z, fun q hq => by cases hq; exact h⟩
    | 5 => obtain ⟨z, h⟩ := known_of htT ok_Remembered iw_Remembered.1; exact ⟨z, fun q hq => by cases hq; exact h⟩
    | 6 => obtain ⟨z, h⟩ := known_of htT ok_MemoryReader iw_MemoryReader.1; exact ⟨z, fun q hq => by cases hq; exact h⟩
    | 7 => obtain ⟨z, h⟩ := known_of htT ok_Descent iw_Descent.1; exact ⟨z, fun q hq => by cases hq; exact h⟩
    | 8 => obtain ⟨z, h⟩ := known_of htT ok_Reckoner iw_Reckoner.1; exact ⟨z, fun q hq => by cases hq; exact h⟩
    | 9 => obtain ⟨z, h⟩ := known_of htT ok_Seizings iw_Seizings.1; exact ⟨z, fun q hq => by cases hq; exact h⟩
    | 10 => obtain ⟨z, h⟩ := known_of htT ok_Juries iw_Juries.1; exact ⟨z, fun q hq => by cases hq; exact h⟩
    | 11 => obtain ⟨z, h⟩ := known_of htT ok_Law iw_Law.1; exact ⟨z, fun q hq => by cases hq; exact h⟩
    | 12 => obtain ⟨z, h⟩ := known_of htT ok_Model iw_Model.1; exact ⟨z, fun q hq => by cases hq; exact h⟩
    | k + 13 => exact ⟨(0, fun _ => 0), fun q hq => by simp [clsL] at hq⟩
  obtain ⟨zc, hzc⟩ := Classical.axiomOfChoice hcl
  obtain ⟨cI, hI⟩ := arr_of (htT _ aw_I) (fun _ _ h => h)
  obtain ⟨cJ, hJ⟩ := arr_of (htT _ aw_J) (fun _ _ h => h)
  obtain ⟨cB, hB⟩ := arr_of (htT _ aw_B) (fun _ _ h => h)
  obtain ⟨cZ, hZ⟩ := arr_of (htT _ aw_Z) (fun _ _ h => h)
  obtain ⟨cL, hL⟩ := arr_ofL (hts (.arrayOver (.object "InquestHall$Law")) (List.mem_of_getElem? (i := 532) (by decide +kernel)))
  have hst : ∀ i : Nat, ∃ q : Nat × Nat, i < 37 → vk_S 1 [lenS.getD i 0] [bytS.getD i []] (fun _ => q.1) (fun _ => q.2) (fun q : Nat => s.heap.size ≤ q) s s.heap ∧ (tmS i).eval #[Value.ref b] s none [] s = some (.ref q.1) := by
    intro i
    by_cases hi : i < 37
    · obtain ⟨q, h⟩ := str_of hfl hA i hi
      exact ⟨q, fun _ => h⟩
    · exact ⟨(0, 0), fun h => absurd h hi⟩
  obtain ⟨ad, had⟩ := Classical.axiomOfChoice hst
  refine ⟨(s.heap.size, (fun k => (zc k).1, fun k => (zc k).2), (cI, cJ, cB, cZ, cL), fun i => (ad i).1, fun i => (ad i).2), rfl, ⟨fun c q hq => hzc c q hq, fun k q hk => ?_⟩, fun i hi => (had i hi).1, fun i q hq => ?_, ?_, ?_, fun q hq => va_Nw.of rfl (hts _ (nestL_in q hq)), va_AO.of (hts (.arrayOver (.object "InquestHall$Law")) (List.mem_of_getElem? (i := 532) (by decide +kernel)))⟩
  · match k, hk with
    | 0, hk => cases hk; exact hI
    | 1, hk => cases hk; exact hJ
    | 2, hk => cases hk; exact hB
    | 3, hk => cases hk; exact hZ
    | 4, hk => cases hk; exact hL
    | k + 5, hk => simp [tysX] at hk
  · have hi : i < 37 := by
      have := (List.getElem?_eq_some_iff.mp hq).1
      exact this
    have h2 := (had i hi).2
    have e : tmS i = .string q.1 q.2.1 := by unfold tmS; rw [hq]
    rw [e] at h2
    exact vk_R.of (hts _ (strL_in q (List.mem_of_getElem? hq))) h2
  · exact va_Zof (hts _ (List.mem_of_getElem? (i := 253) (by decide +kernel))) (hts _ (List.mem_of_getElem? (i := 126) (by decide +kernel))) (va_eqt (hfl _ (List.mem_of_getElem? (i := 4) (by decide +kernel)))) hA
  · exact va_Zqof (hts _ (List.mem_of_getElem? (i := 269) (by decide +kernel))) (hts _ (List.mem_of_getElem? (i := 128) (by decide +kernel))) (hfl _ (List.mem_of_getElem? (i := 5) (by decide +kernel))) hA
set_option maxHeartbeats 4000000 in
set_option maxRecDepth 100000 in
theorem FX_end : FX gk_71 := by unfold FX; decide +kernel
theorem whole_of {Inv : GS → Prop} (S_days : Step_days Inv) (S_person : Step_person Inv) (S_dies : Step_dies Inv) (S_marry : Step_marry Inv) (S_of : Step_of Inv) (S_born : Step_born Inv) (S_land : Step_land Inv) (S_acre : Step_acre Inv) (S_landOf : Step_landOf Inv) (S_reign : Step_reign Inv) (S_feed : Step_feed Inv) (S_end : Step_end Inv) (S_reads : Step_reads Inv) (S_fault : Step_fault Inv) (S_lawOn : Step_lawOn Inv) (S_heirs : Step_heirs Inv) (S_share : Step_share Inv) (S_ward : Step_ward Inv) (S_relief : Step_relief Inv) (S_dower : Step_dower Inv) (S_seize : Step_seize Inv) (S_traverse : Step_traverse Inv) (S_seizing : Step_seizing Inv) (S_holder : Step_holder Inv) (S_event : Step_event Inv) (S_memories : Step_memories Inv) (S_forget : Step_forget Inv) (S_proof : Step_proof Inv) (S_proved : Step_proved Inv) (S_find : Step_find Inv) (S_unsay : Step_unsay Inv) (S_quarrel : Step_quarrel Inv) (S_chain : Step_chain Inv) (I0 : Inv gk_71) {p : Program} {e : Env} {s : State} {m : MethodId} {below : List Frame} {meth : Method} {c : Code} (l : Launch) {b L : Nat} {xs : Nat → Int32} (hL : L ≤ 3072) (C0 : lw_At p s m meth c b L xs) : W p l e room_1 s m #[Value.ref b] below meth c s.heap [] 0 0 (lw_Z below #[Value.ref b] s) (entryFrame m ([Value.ref b] : List Value).toArray 4) := by
  obtain ⟨hx, hb, hr, hml, hown, hts, hX, hbl, hlocks, hgv⟩ := id C0
  obtain ⟨X, hX1, hK, hSt⟩ := law_K hts hgv
  have C : LC X p s m meth c b L xs := ⟨hx, hb, hr, hml, hown, fun w hw => hts w (TSm hw).1, hK, hSt, hX, hbl, hlocks, hX1⟩
  have hl := lv_entry ([.ref b]) (n := 4) (Nat.le_of_ble_eq_true rfl)
  rw [lg_entry_eq]
  have key : JL X b L xs false 0 0 0 0 [(0, .ref b)] [] gz := by
    refine l_new ok_Hall df_Hall cl_Lawm_7 iw_Hall.1 iw_Hall.2 kd_0 (by decide) (by decide) (D_law0 0 rfl) ?_
    refine l_dup (D_law0 1 rfl) rfl ?_
    refine l_callI ck_62 lk_Lawm_9 iok_Hall_init (by decide) rfl (Nat.le_of_ble_eq_true rfl) (by decide) (D_law0 2 rfl) (fun v a2 G2 q => ?_)
    obtain ⟨rfl, rfl, rfl⟩ := q
    refine l_astoren (L' := [(1, rf X 0), (0, .ref b)]) (D_law0 3 rfl) rfl (by decide) rfl ?_
    refine l_new ok_Model df_Model cl_Lawm_10 iw_Model.1 iw_Model.2 kd_81 (by decide) (by decide) (D_law0 4 rfl) ?_
    refine l_dup (D_law0 5 rfl) rfl ?_
    refine l_callI ck_72 lk_Lawm_12 iok_Model_init (by decide) rfl (Nat.le_of_ble_eq_true rfl) (by decide) (D_law0 6 rfl) (fun v a2 G2 q => ?_)
    obtain ⟨rfl, rfl, rfl⟩ := q
    refine l_fx FX_end ?_
    refine l_astoren (L' := [(2, rf X 81), (1, rf X 0), (0, .ref b)]) (D_law0 7 rfl) rfl (by decide) rfl ?_
    refine l_iconst (v := 0) (D_law0 8 rfl) rfl ?_
    refine l_istoren (L' := [(3, vi 0), (2, rf X 81), (1, rf X 0), (0, .ref b)]) (D_law0 9 rfl) rfl wr_z (by decide) rfl ?_
    refine l_loc [3, 2, 1, 0] rfl ?_
    exact law_loop S_days S_person S_dies S_marry S_of S_born S_land S_acre S_landOf S_reign S_feed S_end S_reads S_fault S_lawOn S_heirs S_share S_ward S_relief S_dower S_seize S_traverse S_seizing S_holder S_event S_memories S_forget S_proof S_proved S_find S_unsay S_quarrel S_chain hL (L + 1) 0 gk_71 (Nat.zero_le _) (by omega) I0
  exact key C (by rw [hX1]) ⟨fun _ _ _ => ⟨rfl, rfl, rfl⟩, fun q => by cases q⟩ (fun k q h => by simp [wsG] at h) va_S.rf hl
