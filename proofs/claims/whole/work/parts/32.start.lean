/-! printed by wip/whole/law.py -/
theorem cl_Lawm_7 : Cond.classLink "InquestHallLaw" 7 "InquestHall" ∈ TS := mTS (List.mem_of_getElem? (i := 142) (by decide +kernel)) (by decide +kernel)
theorem df_Hall : ∀ j, j < 15 → defaultValue (T_Hall j) = dfl 0 j := by decide +kernel
theorem iw_Hall : Cond.instantiable "InquestHall" 15 ∈ TS ∧ Cond.initialized "InquestHall" ∈ TS := ⟨mTS (List.mem_of_getElem? (i := 143) (by decide +kernel)) (by decide +kernel), mTS (List.mem_of_getElem? (i := 122) (by decide +kernel)) (by decide +kernel)⟩
theorem lk_Lawm_9 : Cond.methodLink "InquestHallLaw" 9 M_Hall_init.1 ∈ TS := mTS (List.mem_of_getElem? (i := 144) (by decide +kernel)) (by decide +kernel)
theorem iok_Hall_init : IOK M_Hall_init 0 := ⟨mTS (List.mem_of_getElem? (i := 145) (by decide +kernel)) (by decide +kernel), rfl, rfl, mTS (List.mem_of_getElem? (i := 122) (by decide +kernel)) (by decide +kernel), cw_Hall_init, ⟨by decide, by decide, by decide +kernel⟩, by decide +kernel, by decide⟩
theorem cl_Lawm_10 : Cond.classLink "InquestHallLaw" 10 "InquestHallModel" ∈ TS := mTS (List.mem_of_getElem? (i := 1291) (by decide +kernel)) (by decide +kernel)
theorem df_Model : ∀ j, j < 87 → defaultValue (T_Model j) = dfl 12 j := by decide +kernel
theorem iw_Model : Cond.instantiable "InquestHallModel" 87 ∈ TS ∧ Cond.initialized "InquestHallModel" ∈ TS := ⟨mTS (List.mem_of_getElem? (i := 1292) (by decide +kernel)) (by decide +kernel), mTS (List.mem_of_getElem? (i := 139) (by decide +kernel)) (by decide +kernel)⟩
theorem lk_Lawm_12 : Cond.methodLink "InquestHallLaw" 12 M_Model_init.1 ∈ TS := mTS (List.mem_of_getElem? (i := 1293) (by decide +kernel)) (by decide +kernel)
theorem iok_Model_init : IOK M_Model_init 0 := ⟨mTS (List.mem_of_getElem? (i := 1294) (by decide +kernel)) (by decide +kernel), rfl, rfl, mTS (List.mem_of_getElem? (i := 139) (by decide +kernel)) (by decide +kernel), cw_Model_init, ⟨by decide, by decide, by decide +kernel⟩, by decide +kernel, by decide⟩
/-- the tables' part of the law's start -/
theorem law_K {s : State} {b : Nat} (hts : ∀ w ∈ lw_tbl, w.before #[Value.ref b] s = true) (hgv : (Jvm.Cond.and given_1 narrow_1).before #[Value.ref b] s = true) : ∃ X : XT, X.1 = s.heap.size ∧ va_K X.2.1 clsL (tysX X) s ∧ StrOK X s := by
  sorry
set_option maxHeartbeats 4000000 in
set_option maxRecDepth 100000 in
theorem FX_end : FX gk_71 := by decide +kernel
theorem whole_of {Inv : GS → Prop} (S_days : Step_days Inv) (S_person : Step_person Inv) (S_dies : Step_dies Inv) (S_marry : Step_marry Inv) (S_of : Step_of Inv) (S_born : Step_born Inv) (S_land : Step_land Inv) (S_acre : Step_acre Inv) (S_landOf : Step_landOf Inv) (S_reign : Step_reign Inv) (S_feed : Step_feed Inv) (S_end : Step_end Inv) (S_reads : Step_reads Inv) (S_fault : Step_fault Inv) (S_lawOn : Step_lawOn Inv) (S_heirs : Step_heirs Inv) (S_share : Step_share Inv) (S_ward : Step_ward Inv) (S_relief : Step_relief Inv) (S_dower : Step_dower Inv) (S_seize : Step_seize Inv) (S_traverse : Step_traverse Inv) (S_seizing : Step_seizing Inv) (S_holder : Step_holder Inv) (S_event : Step_event Inv) (S_memories : Step_memories Inv) (S_forget : Step_forget Inv) (S_proof : Step_proof Inv) (S_proved : Step_proved Inv) (S_find : Step_find Inv) (S_unsay : Step_unsay Inv) (S_quarrel : Step_quarrel Inv) (S_chain : Step_chain Inv) (I0 : Inv gk_71) {p : Program} {e : Env} {s : State} {m : MethodId} {below : List Frame} {meth : Method} {c : Code} (l : Launch) {b L : Nat} {xs : Nat → Int32} (hL : L ≤ 3072) (C0 : lw_At p s m meth c b L xs) : W p l e room_1 s m #[Value.ref b] below meth c s.heap [] 0 0 (lw_Z below #[Value.ref b] s) (entryFrame m ([Value.ref b] : List Value).toArray 4) := by
  obtain ⟨hx, hb, hr, hml, hown, hts, hX, hbl, hlocks, hgv⟩ := id C0
  obtain ⟨X, hX1, hK, hSt⟩ := law_K hts hgv
  have C : LC X p s m meth c b L xs := ⟨hx, hb, hr, hml, hown, fun w hw => hts w (TSm hw).1, hK, hSt, hX, hbl, hlocks, hX1⟩
  have hl := lv_entry ([.ref b]) (n := 4) (Nat.le_of_ble_eq_true rfl)
  rw [lg_entry_eq]
  have key : JL X b L xs false 0 0 0 0 [(0, .ref b)] [] gz := by
    refine l_new ok_Hall df_Hall cl_Lawm_7 iw_Hall.1 iw_Hall.2 kd_0 (by decide) (by decide) (D_law0 0 rfl) ?_
    refine l_dup (D_law0 1 rfl) rfl ?_
    refine l_callI ck_62 lk_Lawm_9 iok_Hall_init (by decide) rfl (Nat.le_of_ble_eq_true rfl) (by decide) (D_law0 2 rfl) (fun v a2 G2 q => ?_)
    obtain ⟨rfl, rfl, rfl⟩ := q
    refine l_astoren (L' := [(1, rf X 0), (0, .ref b)]) (D_law0 3 rfl) rfl (by decide) rfl ?_
    refine l_new ok_Model df_Model cl_Lawm_10 iw_Model.1 iw_Model.2 kd_81 (by decide) (by decide) (D_law0 4 rfl) ?_
    refine l_dup (D_law0 5 rfl) rfl ?_
    refine l_callI ck_72 lk_Lawm_12 iok_Model_init (by decide) rfl (Nat.le_of_ble_eq_true rfl) (by decide) (D_law0 6 rfl) (fun v a2 G2 q => ?_)
    obtain ⟨rfl, rfl, rfl⟩ := q
    refine l_fx FX_end ?_
    refine l_astoren (L' := [(2, rf X 81), (1, rf X 0), (0, .ref b)]) (D_law0 7 rfl) rfl (by decide) rfl ?_
    refine l_iconst (v := 0) (D_law0 8 rfl) rfl ?_
    refine l_istoren (L' := [(3, vi 0), (2, rf X 81), (1, rf X 0), (0, .ref b)]) (D_law0 9 rfl) rfl wr_z (by decide) rfl ?_
    refine l_loc [3, 2, 1, 0] rfl ?_
    exact law_loop S_days S_person S_dies S_marry S_of S_born S_land S_acre S_landOf S_reign S_feed S_end S_reads S_fault S_lawOn S_heirs S_share S_ward S_relief S_dower S_seize S_traverse S_seizing S_holder S_event S_memories S_forget S_proof S_proved S_find S_unsay S_quarrel S_chain hL (L + 1) 0 gk_71 (Nat.zero_le _) (by omega) I0
  exact key C (by rw [hX1]; rfl) ⟨fun _ _ _ => ⟨rfl, rfl, rfl⟩, fun q => by cases q⟩ (fun k q h => by simp [wsG] at h) va_S.rf hl
