/-! printed by wip/whole/ctor.py -/
abbrev M_Hall_init : MI := (⟨"InquestHall", "<init>", "()V"⟩, prog_1_method_1_code, 2, none)
abbrev M_People_init : MI := (⟨"InquestHall$People", "<init>", "()V"⟩, prog_8_method_1_code, 1, none)
abbrev M_Lands_init : MI := (⟨"InquestHall$Lands", "<init>", "()V"⟩, prog_4_method_1_code, 1, none)
abbrev M_Text_init : MI := (⟨"InquestHall$Text", "<init>", "()V"⟩, prog_12_method_1_code, 3, none)
abbrev M_LawReader_init : MI := (⟨"InquestHall$LawReader", "<init>", "(LInquestHall$Text;)V"⟩, prog_6_method_1_code, 2, none)
abbrev M_Remembered_init : MI := (⟨"InquestHall$Remembered", "<init>", "()V"⟩, prog_10_method_1_code, 1, none)
abbrev M_MemoryReader_init : MI := (⟨"InquestHall$MemoryReader", "<init>", "(LInquestHall$Text;LInquestHall$Remembered;)V"⟩, prog_7_method_1_code, 3, none)
abbrev M_Descent_init : MI := (⟨"InquestHall$Descent", "<init>", "(LInquestHall$People;)V"⟩, prog_2_method_1_code, 2, none)
abbrev M_Reckoner_init : MI := (⟨"InquestHall$Reckoner", "<init>", "()V"⟩, prog_9_method_1_code, 1, none)
abbrev M_Seizings_init : MI := (⟨"InquestHall$Seizings", "<init>", "()V"⟩, prog_11_method_1_code, 1, none)
abbrev M_Juries_init : MI := (⟨"InquestHall$Juries", "<init>", "()V"⟩, prog_3_method_1_code, 1, none)
abbrev M_Law_init : MI := (⟨"InquestHall$Law", "<init>", "()V"⟩, prog_5_method_1_code, 1, none)
theorem cw_Hall_init : Cond.code M_Hall_init.1 M_Hall_init.2.1 M_Hall_init.2.2.1 M_Hall_init.2.2.2 ∈ TS := mTS (List.mem_of_getElem? (i := 146) (by decide +kernel)) (by decide +kernel)
theorem cw_People_init : Cond.code M_People_init.1 M_People_init.2.1 M_People_init.2.2.1 M_People_init.2.2.2 ∈ TS := mTS (List.mem_of_getElem? (i := 154) (by decide +kernel)) (by decide +kernel)
theorem cw_Lands_init : Cond.code M_Lands_init.1 M_Lands_init.2.1 M_Lands_init.2.2.1 M_Lands_init.2.2.2 ∈ TS := mTS (List.mem_of_getElem? (i := 198) (by decide +kernel)) (by decide +kernel)
theorem cw_Text_init : Cond.code M_Text_init.1 M_Text_init.2.1 M_Text_init.2.2.1 M_Text_init.2.2.2 ∈ TS := mTS (List.mem_of_getElem? (i := 241) (by decide +kernel)) (by decide +kernel)
theorem cw_LawReader_init : Cond.code M_LawReader_init.1 M_LawReader_init.2.1 M_LawReader_init.2.2.1 M_LawReader_init.2.2.2 ∈ TS := mTS (List.mem_of_getElem? (i := 333) (by decide +kernel)) (by decide +kernel)
theorem cw_Remembered_init : Cond.code M_Remembered_init.1 M_Remembered_init.2.1 M_Remembered_init.2.2.1 M_Remembered_init.2.2.2 ∈ TS := mTS (List.mem_of_getElem? (i := 367) (by decide +kernel)) (by decide +kernel)
theorem cw_MemoryReader_init : Cond.code M_MemoryReader_init.1 M_MemoryReader_init.2.1 M_MemoryReader_init.2.2.1 M_MemoryReader_init.2.2.2 ∈ TS := mTS (List.mem_of_getElem? (i := 411) (by decide +kernel)) (by decide +kernel)
theorem cw_Descent_init : Cond.code M_Descent_init.1 M_Descent_init.2.1 M_Descent_init.2.2.1 M_Descent_init.2.2.2 ∈ TS := mTS (List.mem_of_getElem? (i := 424) (by decide +kernel)) (by decide +kernel)
theorem cw_Reckoner_init : Cond.code M_Reckoner_init.1 M_Reckoner_init.2.1 M_Reckoner_init.2.2.1 M_Reckoner_init.2.2.2 ∈ TS := mTS (List.mem_of_getElem? (i := 456) (by decide +kernel)) (by decide +kernel)
theorem cw_Seizings_init : Cond.code M_Seizings_init.1 M_Seizings_init.2.1 M_Seizings_init.2.2.1 M_Seizings_init.2.2.2 ∈ TS := mTS (List.mem_of_getElem? (i := 481) (by decide +kernel)) (by decide +kernel)
theorem cw_Juries_init : Cond.code M_Juries_init.1 M_Juries_init.2.1 M_Juries_init.2.2.1 M_Juries_init.2.2.2 ∈ TS := mTS (List.mem_of_getElem? (i := 511) (by decide +kernel)) (by decide +kernel)
theorem cw_Law_init : Cond.code M_Law_init.1 M_Law_init.2.1 M_Law_init.2.2.1 M_Law_init.2.2.2 ∈ TS := mTS (List.mem_of_getElem? (i := 536) (by decide +kernel)) (by decide +kernel)
theorem oi : Cond.instanceMethod Lib.objectInit ∈ TS ∧ Cond.code Lib.objectInit ⟨#[0xb1]⟩ 1 none ∈ TS := ⟨mTS (List.mem_of_getElem? (i := 148) (by decide +kernel)) (by decide +kernel), mTS (List.mem_of_getElem? (i := 149) (by decide +kernel)) (by decide +kernel)⟩
theorem lo_Hall_3 : Cond.methodLink "InquestHall" 3 Lib.objectInit ∈ TS := mTS (List.mem_of_getElem? (i := 147) (by decide +kernel)) (by decide +kernel)
theorem df_People : ∀ j, j < 8 → defaultValue (T_People j) = dfl 1 j := by decide +kernel
theorem cl_Hall_9 : Cond.classLink "InquestHall" 9 "InquestHall$People" ∈ TS := mTS (List.mem_of_getElem? (i := 150) (by decide +kernel)) (by decide +kernel)
theorem iw_People : Cond.instantiable "InquestHall$People" 8 ∈ TS ∧ Cond.initialized "InquestHall$People" ∈ TS := ⟨mTS (List.mem_of_getElem? (i := 151) (by decide +kernel)) (by decide +kernel), mTS (List.mem_of_getElem? (i := 123) (by decide +kernel)) (by decide +kernel)⟩
theorem iok_People_init : IOK M_People_init 0 := ⟨mTS (List.mem_of_getElem? (i := 153) (by decide +kernel)) (by decide +kernel), rfl, rfl, mTS (List.mem_of_getElem? (i := 123) (by decide +kernel)) (by decide +kernel), cw_People_init, ⟨by decide, by decide, by decide +kernel⟩, by decide +kernel, by decide⟩
theorem lo_People_3 : Cond.methodLink "InquestHall$People" 3 Lib.objectInit ∈ TS := mTS (List.mem_of_getElem? (i := 155) (by decide +kernel)) (by decide +kernel)
theorem aw_I : Cond.arrayClass .int ∈ TS := mTS (List.mem_of_getElem? (i := 193) (by decide +kernel)) (by decide +kernel)
theorem ho_People : ∀ (C : String) (T : u_T) (N : Nat) (ty : Nat → FieldType), ClsOK 1 C T N ty → C = "InquestHall$People" := fun C T N ty h => by have h1 := h.1; cases h1; rfl
theorem ho_Hall : ∀ (C : String) (T : u_T) (N : Nat) (ty : Nat → FieldType), ClsOK 0 C T N ty → C = "InquestHall" := fun C T N ty h => by have h1 := h.1; cases h1; rfl
theorem df_Lands : ∀ j, j < 9 → defaultValue (T_Lands j) = dfl 2 j := by decide +kernel
theorem cl_Hall_16 : Cond.classLink "InquestHall" 16 "InquestHall$Lands" ∈ TS := mTS (List.mem_of_getElem? (i := 194) (by decide +kernel)) (by decide +kernel)
theorem iw_Lands : Cond.instantiable "InquestHall$Lands" 9 ∈ TS ∧ Cond.initialized "InquestHall$Lands" ∈ TS := ⟨mTS (List.mem_of_getElem? (i := 195) (by decide +kernel)) (by decide +kernel), mTS (List.mem_of_getElem? (i := 124) (by decide +kernel)) (by decide +kernel)⟩
theorem iok_Lands_init : IOK M_Lands_init 0 := ⟨mTS (List.mem_of_getElem? (i := 197) (by decide +kernel)) (by decide +kernel), rfl, rfl, mTS (List.mem_of_getElem? (i := 124) (by decide +kernel)) (by decide +kernel), cw_Lands_init, ⟨by decide, by decide, by decide +kernel⟩, by decide +kernel, by decide⟩
theorem lo_Lands_3 : Cond.methodLink "InquestHall$Lands" 3 Lib.objectInit ∈ TS := mTS (List.mem_of_getElem? (i := 199) (by decide +kernel)) (by decide +kernel)
theorem ho_Lands : ∀ (C : String) (T : u_T) (N : Nat) (ty : Nat → FieldType), ClsOK 2 C T N ty → C = "InquestHall$Lands" := fun C T N ty h => by have h1 := h.1; cases h1; rfl
theorem df_Text : ∀ j, j < 10 → defaultValue (T_Text j) = dfl 3 j := by decide +kernel
theorem cl_Hall_23 : Cond.classLink "InquestHall" 23 "InquestHall$Text" ∈ TS := mTS (List.mem_of_getElem? (i := 237) (by decide +kernel)) (by decide +kernel)
theorem iw_Text : Cond.instantiable "InquestHall$Text" 10 ∈ TS ∧ Cond.initialized "InquestHall$Text" ∈ TS := ⟨mTS (List.mem_of_getElem? (i := 238) (by decide +kernel)) (by decide +kernel), mTS (List.mem_of_getElem? (i := 125) (by decide +kernel)) (by decide +kernel)⟩
theorem iok_Text_init : IOK M_Text_init 0 := ⟨mTS (List.mem_of_getElem? (i := 240) (by decide +kernel)) (by decide +kernel), rfl, rfl, mTS (List.mem_of_getElem? (i := 125) (by decide +kernel)) (by decide +kernel), cw_Text_init, ⟨by decide, by decide, by decide +kernel⟩, by decide +kernel, by decide⟩
theorem lo_Text_3 : Cond.methodLink "InquestHall$Text" 3 Lib.objectInit ∈ TS := mTS (List.mem_of_getElem? (i := 242) (by decide +kernel)) (by decide +kernel)
theorem aw_B : Cond.arrayClass .byte ∈ TS := mTS (List.mem_of_getElem? (i := 328) (by decide +kernel)) (by decide +kernel)
theorem ho_Text : ∀ (C : String) (T : u_T) (N : Nat) (ty : Nat → FieldType), ClsOK 3 C T N ty → C = "InquestHall$Text" := fun C T N ty h => by have h1 := h.1; cases h1; rfl
theorem lk_Text_34 : Cond.methodLink "InquestHall$Text" 34 M_String_length.1 ∈ TS := mTS (List.mem_of_getElem? (i := 244) (by decide +kernel)) (by decide +kernel)
theorem lk_Hall_25 : Cond.methodLink "InquestHall" 25 M_Text_init.1 ∈ TS := mTS (List.mem_of_getElem? (i := 239) (by decide +kernel)) (by decide +kernel)
theorem df_LawReader : ∀ j, j < 9 → defaultValue (T_LawReader j) = dfl 4 j := by decide +kernel
theorem cl_Hall_30 : Cond.classLink "InquestHall" 30 "InquestHall$LawReader" ∈ TS := mTS (List.mem_of_getElem? (i := 329) (by decide +kernel)) (by decide +kernel)
theorem iw_LawReader : Cond.instantiable "InquestHall$LawReader" 9 ∈ TS ∧ Cond.initialized "InquestHall$LawReader" ∈ TS := ⟨mTS (List.mem_of_getElem? (i := 330) (by decide +kernel)) (by decide +kernel), mTS (List.mem_of_getElem? (i := 130) (by decide +kernel)) (by decide +kernel)⟩
theorem iok_LawReader_init : IOK M_LawReader_init 1 := ⟨mTS (List.mem_of_getElem? (i := 332) (by decide +kernel)) (by decide +kernel), rfl, rfl, mTS (List.mem_of_getElem? (i := 130) (by decide +kernel)) (by decide +kernel), cw_LawReader_init, ⟨by decide, by decide, by decide +kernel⟩, by decide +kernel, by decide⟩
theorem lo_LawReader_3 : Cond.methodLink "InquestHall$LawReader" 3 Lib.objectInit ∈ TS := mTS (List.mem_of_getElem? (i := 334) (by decide +kernel)) (by decide +kernel)
theorem ho_LawReader : ∀ (C : String) (T : u_T) (N : Nat) (ty : Nat → FieldType), ClsOK 4 C T N ty → C = "InquestHall$LawReader" := fun C T N ty h => by have h1 := h.1; cases h1; rfl
theorem lk_Hall_32 : Cond.methodLink "InquestHall" 32 M_LawReader_init.1 ∈ TS := mTS (List.mem_of_getElem? (i := 331) (by decide +kernel)) (by decide +kernel)
theorem df_Remembered : ∀ j, j < 9 → defaultValue (T_Remembered j) = dfl 5 j := by decide +kernel
theorem cl_Hall_39 : Cond.classLink "InquestHall" 39 "InquestHall$Remembered" ∈ TS := mTS (List.mem_of_getElem? (i := 363) (by decide +kernel)) (by decide +kernel)
theorem iw_Remembered : Cond.instantiable "InquestHall$Remembered" 9 ∈ TS ∧ Cond.initialized "InquestHall$Remembered" ∈ TS := ⟨mTS (List.mem_of_getElem? (i := 364) (by decide +kernel)) (by decide +kernel), mTS (List.mem_of_getElem? (i := 131) (by decide +kernel)) (by decide +kernel)⟩
theorem iok_Remembered_init : IOK M_Remembered_init 0 := ⟨mTS (List.mem_of_getElem? (i := 366) (by decide +kernel)) (by decide +kernel), rfl, rfl, mTS (List.mem_of_getElem? (i := 131) (by decide +kernel)) (by decide +kernel), cw_Remembered_init, ⟨by decide, by decide, by decide +kernel⟩, by decide +kernel, by decide⟩
theorem lo_Remembered_3 : Cond.methodLink "InquestHall$Remembered" 3 Lib.objectInit ∈ TS := mTS (List.mem_of_getElem? (i := 368) (by decide +kernel)) (by decide +kernel)
theorem ho_Remembered : ∀ (C : String) (T : u_T) (N : Nat) (ty : Nat → FieldType), ClsOK 5 C T N ty → C = "InquestHall$Remembered" := fun C T N ty h => by have h1 := h.1; cases h1; rfl
theorem lk_Remembered_29 : Cond.methodLink "InquestHall$Remembered" 29 M_Arrays_fill.1 ∈ TS := mTS (List.mem_of_getElem? (i := 369) (by decide +kernel)) (by decide +kernel)
theorem lk_Hall_41 : Cond.methodLink "InquestHall" 41 M_Remembered_init.1 ∈ TS := mTS (List.mem_of_getElem? (i := 365) (by decide +kernel)) (by decide +kernel)
theorem df_MemoryReader : ∀ j, j < 2 → defaultValue (T_MemoryReader j) = dfl 6 j := by decide +kernel
theorem cl_Hall_46 : Cond.classLink "InquestHall" 46 "InquestHall$MemoryReader" ∈ TS := mTS (List.mem_of_getElem? (i := 407) (by decide +kernel)) (by decide +kernel)
theorem iw_MemoryReader : Cond.instantiable "InquestHall$MemoryReader" 2 ∈ TS ∧ Cond.initialized "InquestHall$MemoryReader" ∈ TS := ⟨mTS (List.mem_of_getElem? (i := 408) (by decide +kernel)) (by decide +kernel), mTS (List.mem_of_getElem? (i := 133) (by decide +kernel)) (by decide +kernel)⟩
theorem iok_MemoryReader_init : IOK M_MemoryReader_init 2 := ⟨mTS (List.mem_of_getElem? (i := 410) (by decide +kernel)) (by decide +kernel), rfl, rfl, mTS (List.mem_of_getElem? (i := 133) (by decide +kernel)) (by decide +kernel), cw_MemoryReader_init, ⟨by decide, by decide, by decide +kernel⟩, by decide +kernel, by decide⟩
theorem lo_MemoryReader_3 : Cond.methodLink "InquestHall$MemoryReader" 3 Lib.objectInit ∈ TS := mTS (List.mem_of_getElem? (i := 412) (by decide +kernel)) (by decide +kernel)
theorem ho_MemoryReader : ∀ (C : String) (T : u_T) (N : Nat) (ty : Nat → FieldType), ClsOK 6 C T N ty → C = "InquestHall$MemoryReader" := fun C T N ty h => by have h1 := h.1; cases h1; rfl
theorem lk_Hall_48 : Cond.methodLink "InquestHall" 48 M_MemoryReader_init.1 ∈ TS := mTS (List.mem_of_getElem? (i := 409) (by decide +kernel)) (by decide +kernel)
theorem df_Descent : ∀ j, j < 8 → defaultValue (T_Descent j) = dfl 7 j := by decide +kernel
theorem cl_Hall_55 : Cond.classLink "InquestHall" 55 "InquestHall$Descent" ∈ TS := mTS (List.mem_of_getElem? (i := 420) (by decide +kernel)) (by decide +kernel)
theorem iw_Descent : Cond.instantiable "InquestHall$Descent" 8 ∈ TS ∧ Cond.initialized "InquestHall$Descent" ∈ TS := ⟨mTS (List.mem_of_getElem? (i := 421) (by decide +kernel)) (by decide +kernel), mTS (List.mem_of_getElem? (i := 134) (by decide +kernel)) (by decide +kernel)⟩
theorem iok_Descent_init : IOK M_Descent_init 1 := ⟨mTS (List.mem_of_getElem? (i := 423) (by decide +kernel)) (by decide +kernel), rfl, rfl, mTS (List.mem_of_getElem? (i := 134) (by decide +kernel)) (by decide +kernel), cw_Descent_init, ⟨by decide, by decide, by decide +kernel⟩, by decide +kernel, by decide⟩
theorem lo_Descent_5 : Cond.methodLink "InquestHall$Descent" 5 Lib.objectInit ∈ TS := mTS (List.mem_of_getElem? (i := 425) (by decide +kernel)) (by decide +kernel)
theorem ho_Descent : ∀ (C : String) (T : u_T) (N : Nat) (ty : Nat → FieldType), ClsOK 7 C T N ty → C = "InquestHall$Descent" := fun C T N ty h => by have h1 := h.1; cases h1; rfl
theorem aw_J : Cond.arrayClass .long ∈ TS := mTS (List.mem_of_getElem? (i := 451) (by decide +kernel)) (by decide +kernel)
theorem lk_Hall_57 : Cond.methodLink "InquestHall" 57 M_Descent_init.1 ∈ TS := mTS (List.mem_of_getElem? (i := 422) (by decide +kernel)) (by decide +kernel)
theorem df_Reckoner : ∀ j, j < 5 → defaultValue (T_Reckoner j) = dfl 8 j := by decide +kernel
theorem cl_Hall_64 : Cond.classLink "InquestHall" 64 "InquestHall$Reckoner" ∈ TS := mTS (List.mem_of_getElem? (i := 452) (by decide +kernel)) (by decide +kernel)
theorem iw_Reckoner : Cond.instantiable "InquestHall$Reckoner" 5 ∈ TS ∧ Cond.initialized "InquestHall$Reckoner" ∈ TS := ⟨mTS (List.mem_of_getElem? (i := 453) (by decide +kernel)) (by decide +kernel), mTS (List.mem_of_getElem? (i := 135) (by decide +kernel)) (by decide +kernel)⟩
theorem iok_Reckoner_init : IOK M_Reckoner_init 0 := ⟨mTS (List.mem_of_getElem? (i := 455) (by decide +kernel)) (by decide +kernel), rfl, rfl, mTS (List.mem_of_getElem? (i := 135) (by decide +kernel)) (by decide +kernel), cw_Reckoner_init, ⟨by decide, by decide, by decide +kernel⟩, by decide +kernel, by decide⟩
theorem lo_Reckoner_3 : Cond.methodLink "InquestHall$Reckoner" 3 Lib.objectInit ∈ TS := mTS (List.mem_of_getElem? (i := 457) (by decide +kernel)) (by decide +kernel)
theorem ho_Reckoner : ∀ (C : String) (T : u_T) (N : Nat) (ty : Nat → FieldType), ClsOK 8 C T N ty → C = "InquestHall$Reckoner" := fun C T N ty h => by have h1 := h.1; cases h1; rfl
theorem df_Seizings : ∀ j, j < 7 → defaultValue (T_Seizings j) = dfl 9 j := by decide +kernel
theorem cl_Hall_71 : Cond.classLink "InquestHall" 71 "InquestHall$Seizings" ∈ TS := mTS (List.mem_of_getElem? (i := 477) (by decide +kernel)) (by decide +kernel)
theorem iw_Seizings : Cond.instantiable "InquestHall$Seizings" 7 ∈ TS ∧ Cond.initialized "InquestHall$Seizings" ∈ TS := ⟨mTS (List.mem_of_getElem? (i := 478) (by decide +kernel)) (by decide +kernel), mTS (List.mem_of_getElem? (i := 136) (by decide +kernel)) (by decide +kernel)⟩
theorem iok_Seizings_init : IOK M_Seizings_init 0 := ⟨mTS (List.mem_of_getElem? (i := 480) (by decide +kernel)) (by decide +kernel), rfl, rfl, mTS (List.mem_of_getElem? (i := 136) (by decide +kernel)) (by decide +kernel), cw_Seizings_init, ⟨by decide, by decide, by decide +kernel⟩, by decide +kernel, by decide⟩
theorem lo_Seizings_3 : Cond.methodLink "InquestHall$Seizings" 3 Lib.objectInit ∈ TS := mTS (List.mem_of_getElem? (i := 482) (by decide +kernel)) (by decide +kernel)
theorem ho_Seizings : ∀ (C : String) (T : u_T) (N : Nat) (ty : Nat → FieldType), ClsOK 9 C T N ty → C = "InquestHall$Seizings" := fun C T N ty h => by have h1 := h.1; cases h1; rfl
theorem df_Juries : ∀ j, j < 5 → defaultValue (T_Juries j) = dfl 10 j := by decide +kernel
theorem cl_Hall_78 : Cond.classLink "InquestHall" 78 "InquestHall$Juries" ∈ TS := mTS (List.mem_of_getElem? (i := 507) (by decide +kernel)) (by decide +kernel)
theorem iw_Juries : Cond.instantiable "InquestHall$Juries" 5 ∈ TS ∧ Cond.initialized "InquestHall$Juries" ∈ TS := ⟨mTS (List.mem_of_getElem? (i := 508) (by decide +kernel)) (by decide +kernel), mTS (List.mem_of_getElem? (i := 137) (by decide +kernel)) (by decide +kernel)⟩
theorem iok_Juries_init : IOK M_Juries_init 0 := ⟨mTS (List.mem_of_getElem? (i := 510) (by decide +kernel)) (by decide +kernel), rfl, rfl, mTS (List.mem_of_getElem? (i := 137) (by decide +kernel)) (by decide +kernel), cw_Juries_init, ⟨by decide, by decide, by decide +kernel⟩, by decide +kernel, by decide⟩
theorem lo_Juries_3 : Cond.methodLink "InquestHall$Juries" 3 Lib.objectInit ∈ TS := mTS (List.mem_of_getElem? (i := 512) (by decide +kernel)) (by decide +kernel)
theorem ho_Juries : ∀ (C : String) (T : u_T) (N : Nat) (ty : Nat → FieldType), ClsOK 10 C T N ty → C = "InquestHall$Juries" := fun C T N ty h => by have h1 := h.1; cases h1; rfl
theorem lk_Hall_80 : Cond.methodLink "InquestHall" 80 M_Juries_init.1 ∈ TS := mTS (List.mem_of_getElem? (i := 509) (by decide +kernel)) (by decide +kernel)
theorem cl_Hall_85 : Cond.classLink "InquestHall" 85 "InquestHall$Law" ∈ TS := mTS (List.mem_of_getElem? (i := 531) (by decide +kernel)) (by decide +kernel)
theorem df_Law : ∀ j, j < 10 → defaultValue (T_Law j) = dfl 11 j := by decide +kernel
theorem iw_Law : Cond.instantiable "InquestHall$Law" 10 ∈ TS ∧ Cond.initialized "InquestHall$Law" ∈ TS := ⟨mTS (List.mem_of_getElem? (i := 533) (by decide +kernel)) (by decide +kernel), mTS (List.mem_of_getElem? (i := 138) (by decide +kernel)) (by decide +kernel)⟩
theorem kd_50 : kd 50 = (11 + 5, 10) := rfl
theorem iok_Law_init : IOK M_Law_init 0 := ⟨mTS (List.mem_of_getElem? (i := 535) (by decide +kernel)) (by decide +kernel), rfl, rfl, mTS (List.mem_of_getElem? (i := 138) (by decide +kernel)) (by decide +kernel), cw_Law_init, ⟨by decide, by decide, by decide +kernel⟩, by decide +kernel, by decide⟩
theorem lo_Law_3 : Cond.methodLink "InquestHall$Law" 3 Lib.objectInit ∈ TS := mTS (List.mem_of_getElem? (i := 537) (by decide +kernel)) (by decide +kernel)
theorem kd_51 : kd 51 = (0, 4) := rfl
theorem ho_Law : ∀ (C : String) (T : u_T) (N : Nat) (ty : Nat → FieldType), ClsOK 11 C T N ty → C = "InquestHall$Law" := fun C T N ty h => by have h1 := h.1; cases h1; rfl
theorem kd_52 : kd 52 = (0, 3) := rfl
theorem kd_53 : kd 53 = (0, 3) := rfl
theorem kd_54 : kd 54 = (0, 3) := rfl
theorem kd_55 : kd 55 = (0, 800) := rfl
theorem lk_Law_29 : Cond.methodLink "InquestHall$Law" 29 M_Law_reset.1 ∈ TS := mTS (List.mem_of_getElem? (i := 538) (by decide +kernel)) (by decide +kernel)
theorem lk_Hall_91 : Cond.methodLink "InquestHall" 91 M_Law_init.1 ∈ TS := mTS (List.mem_of_getElem? (i := 534) (by decide +kernel)) (by decide +kernel)
theorem kd_56 : kd 56 = (11 + 5, 10) := rfl
theorem kd_57 : kd 57 = (0, 4) := rfl
theorem kd_58 : kd 58 = (0, 3) := rfl
theorem kd_59 : kd 59 = (0, 3) := rfl
theorem kd_60 : kd 60 = (0, 3) := rfl
theorem kd_61 : kd 61 = (0, 800) := rfl
theorem kd_62 : kd 62 = (11 + 5, 10) := rfl
theorem kd_63 : kd 63 = (0, 4) := rfl
theorem kd_64 : kd 64 = (0, 3) := rfl
theorem kd_65 : kd 65 = (0, 3) := rfl
theorem kd_66 : kd 66 = (0, 3) := rfl
theorem kd_67 : kd 67 = (0, 800) := rfl
theorem kd_68 : kd 68 = (11 + 5, 10) := rfl
theorem kd_69 : kd 69 = (0, 4) := rfl
theorem kd_70 : kd 70 = (0, 3) := rfl
theorem kd_71 : kd 71 = (0, 3) := rfl
theorem kd_72 : kd 72 = (0, 3) := rfl
theorem kd_73 : kd 73 = (0, 800) := rfl
theorem kd_75 : kd 75 = (11 + 5, 10) := rfl
theorem kd_76 : kd 76 = (0, 4) := rfl
theorem kd_77 : kd 77 = (0, 3) := rfl
theorem kd_78 : kd 78 = (0, 3) := rfl
theorem kd_79 : kd 79 = (0, 3) := rfl
theorem kd_80 : kd 80 = (0, 800) := rfl
def gz : GS := (fun _ _ => 0, fun _ _ => 0, fun _ _ => 0)
def gk_1 : GS := gz
def gk_2 : GS := (sp (sp (sp (sp (sp (sp (sp gk_1 1 0 2) 1 1 3) 1 2 4) 1 3 5) 1 4 6) 1 5 7) 1 6 8)
def tb_People_init : List (Nat × Instr × Nat) := [(0, .aload_n 0, 1), (1, .invokespecial 3, 3), (4, .aload_n 0, 1), (5, .bipush 32, 2), (7, .newarray .int, 2), (9, .putfield 11, 3), (12, .aload_n 0, 1), (13, .bipush 32, 2), (15, .newarray .int, 2), (17, .putfield 15, 3), (20, .aload_n 0, 1), (21, .bipush 32, 2), (23, .newarray .int, 2), (25, .putfield 18, 3), (28, .aload_n 0, 1), (29, .bipush 32, 2), (31, .newarray .int, 2), (33, .putfield 21, 3), (36, .aload_n 0, 1), (37, .bipush 32, 2), (39, .newarray .int, 2), (41, .putfield 24, 3), (44, .aload_n 0, 1), (45, .bipush 32, 2), (47, .newarray .int, 2), (49, .putfield 27, 3), (52, .aload_n 0, 1), (53, .bipush 32, 2), (55, .newarray .int, 2), (57, .putfield 30, 3), (60, .return_, 1)]
theorem D_People_init (i : Nat) {pc len : Nat} {ins : Instr} (hi : tb_People_init[i]? = some (pc, ins, len)) : decode M_People_init.2.1 pc = .ok (ins, len) := dec_of (by decide +kernel) i hi
set_option maxHeartbeats 4000000 in
set_option maxRecDepth 100000 in
theorem ck_3 {X : XT} : Call X false 5 7 224 M_People_init [rf X 1] 2 gk_1 (fun v a2 G2 => v = none ∧ a2 = 9 ∧ G2 = gk_2) := by
  refine Call_of_J cw_People_init (by decide +kernel) (Nat.le_of_ble_eq_true rfl) ?_
  show J X false 5 7 224 M_People_init _ 2 0 0 0 [(0, rf X 1)] [] gk_1
  refine j_aloadn (k := 0) (D_People_init 0 rfl) rfl rfl ?_
  refine j_objI rfl lo_People_3 oi.1 oi.2 (by decide) (by decide) (D_People_init 1 rfl) ?_
  refine j_aloadn (k := 0) (D_People_init 2 rfl) rfl rfl ?_
  refine j_bipush (v := 32) (D_People_init 3 rfl) rfl ?_
  refine j_newI (N := 32) kd_2 aw_I (wr_lit rfl) rfl (by decide) (by decide) (by decide) (D_People_init 4 rfl) ?_
  refine j_putRF rfl rfl ho_People fa_People_11 (by first | exact Or.inl ⟨_, rfl⟩ | exact Or.inr ⟨_, rfl⟩) kd_1 (by decide) (by decide) rfl (by decide) rfl (D_People_init 5 rfl) ?_
  refine j_aloadn (k := 0) (D_People_init 6 rfl) rfl rfl ?_
  refine j_bipush (v := 32) (D_People_init 7 rfl) rfl ?_
  refine j_newI (N := 32) kd_3 aw_I (wr_lit rfl) rfl (by decide) (by decide) (by decide) (D_People_init 8 rfl) ?_
  refine j_putRF rfl rfl ho_People fa_People_15 (by first | exact Or.inl ⟨_, rfl⟩ | exact Or.inr ⟨_, rfl⟩) kd_1 (by decide) (by decide) rfl (by decide) rfl (D_People_init 9 rfl) ?_
  refine j_aloadn (k := 0) (D_People_init 10 rfl) rfl rfl ?_
  refine j_bipush (v := 32) (D_People_init 11 rfl) rfl ?_
  refine j_newI (N := 32) kd_4 aw_I (wr_lit rfl) rfl (by decide) (by decide) (by decide) (D_People_init 12 rfl) ?_
  refine j_putRF rfl rfl ho_People fa_People_18 (by first | exact Or.inl ⟨_, rfl⟩ | exact Or.inr ⟨_, rfl⟩) kd_1 (by decide) (by decide) rfl (by decide) rfl (D_People_init 13 rfl) ?_
  refine j_aloadn (k := 0) (D_People_init 14 rfl) rfl rfl ?_
  refine j_bipush (v := 32) (D_People_init 15 rfl) rfl ?_
  refine j_newI (N := 32) kd_5 aw_I (wr_lit rfl) rfl (by decide) (by decide) (by decide) (D_People_init 16 rfl) ?_
  refine j_putRF rfl rfl ho_People fa_People_21 (by first | exact Or.inl ⟨_, rfl⟩ | exact Or.inr ⟨_, rfl⟩) kd_1 (by decide) (by decide) rfl (by decide) rfl (D_People_init 17 rfl) ?_
  refine j_aloadn (k := 0) (D_People_init 18 rfl) rfl rfl ?_
  refine j_bipush (v := 32) (D_People_init 19 rfl) rfl ?_
  refine j_newI (N := 32) kd_6 aw_I (wr_lit rfl) rfl (by decide) (by decide) (by decide) (D_People_init 20 rfl) ?_
  refine j_putRF rfl rfl ho_People fa_People_24 (by first | exact Or.inl ⟨_, rfl⟩ | exact Or.inr ⟨_, rfl⟩) kd_1 (by decide) (by decide) rfl (by decide) rfl (D_People_init 21 rfl) ?_
  refine j_aloadn (k := 0) (D_People_init 22 rfl) rfl rfl ?_
  refine j_bipush (v := 32) (D_People_init 23 rfl) rfl ?_
  refine j_newI (N := 32) kd_7 aw_I (wr_lit rfl) rfl (by decide) (by decide) (by decide) (D_People_init 24 rfl) ?_
  refine j_putRF rfl rfl ho_People fa_People_27 (by first | exact Or.inl ⟨_, rfl⟩ | exact Or.inr ⟨_, rfl⟩) kd_1 (by decide) (by decide) rfl (by decide) rfl (D_People_init 25 rfl) ?_
  refine j_aloadn (k := 0) (D_People_init 26 rfl) rfl rfl ?_
  refine j_bipush (v := 32) (D_People_init 27 rfl) rfl ?_
  refine j_newI (N := 32) kd_8 aw_I (wr_lit rfl) rfl (by decide) (by decide) (by decide) (D_People_init 28 rfl) ?_
  refine j_putRF rfl rfl ho_People fa_People_30 (by first | exact Or.inl ⟨_, rfl⟩ | exact Or.inr ⟨_, rfl⟩) kd_1 (by decide) (by decide) rfl (by decide) rfl (D_People_init 29 rfl) ?_
  exact j_vret (D_People_init 30 rfl) rfl rfl rfl ⟨rfl, rfl, rfl⟩
def gk_4 : GS := (sp gk_2 0 0 1)
def gk_5 : GS := (sp (sp (sp (sp (sp gk_4 9 0 10) 9 1 11) 9 2 12) 9 3 13) 9 4 14)
def tb_Lands_init : List (Nat × Instr × Nat) := [(0, .aload_n 0, 1), (1, .invokespecial 3, 3), (4, .aload_n 0, 1), (5, .bipush 12, 2), (7, .newarray .int, 2), (9, .putfield 11, 3), (12, .aload_n 0, 1), (13, .bipush 12, 2), (15, .newarray .int, 2), (17, .putfield 15, 3), (20, .aload_n 0, 1), (21, .bipush 12, 2), (23, .newarray .int, 2), (25, .putfield 18, 3), (28, .aload_n 0, 1), (29, .bipush 72, 2), (31, .newarray .int, 2), (33, .putfield 21, 3), (36, .aload_n 0, 1), (37, .bipush 72, 2), (39, .newarray .int, 2), (41, .putfield 24, 3), (44, .return_, 1)]
theorem D_Lands_init (i : Nat) {pc len : Nat} {ins : Instr} (hi : tb_Lands_init[i]? = some (pc, ins, len)) : decode M_Lands_init.2.1 pc = .ok (ins, len) := dec_of (by decide +kernel) i hi
set_option maxHeartbeats 4000000 in
set_option maxRecDepth 100000 in
theorem ck_6 {X : XT} : Call X false 5 5 180 M_Lands_init [rf X 9] 10 gk_4 (fun v a2 G2 => v = none ∧ a2 = 15 ∧ G2 = gk_5) := by
  refine Call_of_J cw_Lands_init (by decide +kernel) (Nat.le_of_ble_eq_true rfl) ?_
  show J X false 5 5 180 M_Lands_init _ 10 0 0 0 [(0, rf X 9)] [] gk_4
  refine j_aloadn (k := 0) (D_Lands_init 0 rfl) rfl rfl ?_
  refine j_objI rfl lo_Lands_3 oi.1 oi.2 (by decide) (by decide) (D_Lands_init 1 rfl) ?_
  refine j_aloadn (k := 0) (D_Lands_init 2 rfl) rfl rfl ?_
  refine j_bipush (v := 12) (D_Lands_init 3 rfl) rfl ?_
  refine j_newI (N := 12) kd_10 aw_I (wr_lit rfl) rfl (by decide) (by decide) (by decide) (D_Lands_init 4 rfl) ?_
  refine j_putRF rfl rfl ho_Lands fa_Lands_11 (by first | exact Or.inl ⟨_, rfl⟩ | exact Or.inr ⟨_, rfl⟩) kd_9 (by decide) (by decide) rfl (by decide) rfl (D_Lands_init 5 rfl) ?_
  refine j_aloadn (k := 0) (D_Lands_init 6 rfl) rfl rfl ?_
  refine j_bipush (v := 12) (D_Lands_init 7 rfl) rfl ?_
  refine j_newI (N := 12) kd_11 aw_I (wr_lit rfl) rfl (by decide) (by decide) (by decide) (D_Lands_init 8 rfl) ?_
  refine j_putRF rfl rfl ho_Lands fa_Lands_15 (by first | exact Or.inl ⟨_, rfl⟩ | exact Or.inr ⟨_, rfl⟩) kd_9 (by decide) (by decide) rfl (by decide) rfl (D_Lands_init 9 rfl) ?_
  refine j_aloadn (k := 0) (D_Lands_init 10 rfl) rfl rfl ?_
  refine j_bipush (v := 12) (D_Lands_init 11 rfl) rfl ?_
  refine j_newI (N := 12) kd_12 aw_I (wr_lit rfl) rfl (by decide) (by decide) (by decide) (D_Lands_init 12 rfl) ?_
  refine j_putRF rfl rfl ho_Lands fa_Lands_18 (by first | exact Or.inl ⟨_, rfl⟩ | exact Or.inr ⟨_, rfl⟩) kd_9 (by decide) (by decide) rfl (by decide) rfl (D_Lands_init 13 rfl) ?_
  refine j_aloadn (k := 0) (D_Lands_init 14 rfl) rfl rfl ?_
  refine j_bipush (v := 72) (D_Lands_init 15 rfl) rfl ?_
  refine j_newI (N := 72) kd_13 aw_I (wr_lit rfl) rfl (by decide) (by decide) (by decide) (D_Lands_init 16 rfl) ?_
  refine j_putRF rfl rfl ho_Lands fa_Lands_21 (by first | exact Or.inl ⟨_, rfl⟩ | exact Or.inr ⟨_, rfl⟩) kd_9 (by decide) (by decide) rfl (by decide) rfl (D_Lands_init 17 rfl) ?_
  refine j_aloadn (k := 0) (D_Lands_init 18 rfl) rfl rfl ?_
  refine j_bipush (v := 72) (D_Lands_init 19 rfl) rfl ?_
  refine j_newI (N := 72) kd_14 aw_I (wr_lit rfl) rfl (by decide) (by decide) (by decide) (D_Lands_init 20 rfl) ?_
  refine j_putRF rfl rfl ho_Lands fa_Lands_24 (by first | exact Or.inl ⟨_, rfl⟩ | exact Or.inr ⟨_, rfl⟩) kd_9 (by decide) (by decide) rfl (by decide) rfl (D_Lands_init 21 rfl) ?_
  exact j_vret (D_Lands_init 22 rfl) rfl rfl rfl ⟨rfl, rfl, rfl⟩
def gk_7 : GS := (sp gk_5 0 1 9)
def gk_8 : GS := (si (si (si (si (si (si (si (si (si (si (si (si (si (si (si (si (si (si (si (si (si (si (si (si (si (si (si (si (si (si (si (si (si (si (si (si (si (sp (sp (sp (sp (sp gk_7 15 0 16) 15 2 17) 15 3 18) 15 4 19) 15 5 20) 15 9 (-1)) 17 (1 : Int).toNat 6) 17 (2 : Int).toNat 12) 17 (3 : Int).toNat 18) 17 (4 : Int).toNat 26) 17 (5 : Int).toNat 30) 17 (6 : Int).toNat 36) 17 (7 : Int).toNat 42) 17 (8 : Int).toNat 49) 17 (9 : Int).toNat 58) 17 (10 : Int).toNat 62) 17 (11 : Int).toNat 69) 17 (12 : Int).toNat 76) 17 (13 : Int).toNat 86) 17 (14 : Int).toNat 91) 17 (15 : Int).toNat 96) 17 (16 : Int).toNat 100) 17 (17 : Int).toNat 105) 17 (18 : Int).toNat 111) 17 (19 : Int).toNat 116) 17 (20 : Int).toNat 125) 17 (21 : Int).toNat 132) 17 (22 : Int).toNat 135) 17 (23 : Int).toNat 141) 17 (24 : Int).toNat 146) 17 (25 : Int).toNat 149) 17 (26 : Int).toNat 152) 17 (27 : Int).toNat 157) 17 (28 : Int).toNat 160) 17 (29 : Int).toNat 164) 17 (30 : Int).toNat 168) 17 (31 : Int).toNat 175) 17 (32 : Int).toNat 181) 17 (33 : Int).toNat 186) 17 (34 : Int).toNat 192) 17 (35 : Int).toNat 195) 17 (36 : Int).toNat 199)
def tb_Text_init : List (Nat × Instr × Nat) := [(0, .aload_n 0, 1), (1, .invokespecial 3, 3), (4, .aload_n 0, 1), (5, .sipush 800, 3), (8, .newarray .byte, 2), (10, .putfield 11, 3), (13, .aload_n 0, 1), (14, .bipush 37, 2), (16, .newarray .int, 2), (18, .putfield 15, 3), (21, .aload_n 0, 1), (22, .sipush 801, 3), (25, .newarray .int, 2), (27, .putfield 19, 3), (30, .aload_n 0, 1), (31, .sipush 801, 3), (34, .newarray .int, 2), (36, .putfield 22, 3), (39, .aload_n 0, 1), (40, .sipush 801, 3), (43, .newarray .int, 2), (45, .putfield 25, 3), (48, .aload_n 0, 1), (49, .iconst (-1), 1), (50, .putfield 28, 3), (53, .iconst 1, 1), (54, .istore_n 1, 1), (55, .iconst 0, 1), (56, .istore_n 2, 1), (57, .iload_n 2, 1), (58, .ldc 32, 2), (60, .invokevirtual 34, 3), (63, .if_icmp .ge 38, 3), (66, .iload_n 1, 1), (67, .bipush 36, 2), (69, .if_icmp .gt 32, 3), (72, .ldc 32, 2), (74, .iload_n 2, 1), (75, .invokevirtual 40, 3), (78, .bipush 32, 2), (80, .if_icmp .ne 15, 3), (83, .aload_n 0, 1), (84, .getfield 15, 3), (87, .iload_n 1, 1), (88, .iload_n 2, 1), (89, .iconst 1, 1), (90, .iadd, 1), (91, .iastore, 1), (92, .iinc 1 1, 3), (95, .iinc 2 1, 3), (98, .goto (-41), 3), (101, .return_, 1)]
theorem D_Text_init (i : Nat) {pc len : Nat} {ins : Instr} (hi : tb_Text_init[i]? = some (pc, ins, len)) : decode M_Text_init.2.1 pc = .ok (ins, len) := dec_of (by decide +kernel) i hi
set_option maxHeartbeats 4000000 in
set_option maxRecDepth 100000 in
theorem ck_9 {X : XT} : Call X false 9 5 3240 M_Text_init [rf X 15] 16 gk_7 (fun v a2 G2 => v = none ∧ a2 = 21 ∧ G2 = gk_8) := by
  refine Call_of_J cw_Text_init (by decide +kernel) (Nat.le_of_ble_eq_true rfl) ?_
  show J X false 9 5 3240 M_Text_init _ 16 0 0 0 [(0, rf X 15)] [] gk_7
  refine j_aloadn (k := 0) (D_Text_init 0 rfl) rfl rfl ?_
  refine j_objI rfl lo_Text_3 oi.1 oi.2 (by decide) (by decide) (D_Text_init 1 rfl) ?_
  refine j_aloadn (k := 0) (D_Text_init 2 rfl) rfl rfl ?_
  refine j_sipush (v := 800) (D_Text_init 3 rfl) rfl ?_
  refine j_newB (N := 800) kd_16 aw_B (wr_lit rfl) rfl (by decide) (by decide) (by decide) (D_Text_init 4 rfl) ?_
  refine j_putRF rfl rfl ho_Text fa_Text_11 (by first | exact Or.inl ⟨_, rfl⟩ | exact Or.inr ⟨_, rfl⟩) kd_15 (by decide) (by decide) rfl (by decide) rfl (D_Text_init 5 rfl) ?_
  refine j_aloadn (k := 0) (D_Text_init 6 rfl) rfl rfl ?_
  refine j_bipush (v := 37) (D_Text_init 7 rfl) rfl ?_
  refine j_newI (N := 37) kd_17 aw_I (wr_lit rfl) rfl (by decide) (by decide) (by decide) (D_Text_init 8 rfl) ?_
  refine j_putRF rfl rfl ho_Text fa_Text_15 (by first | exact Or.inl ⟨_, rfl⟩ | exact Or.inr ⟨_, rfl⟩) kd_15 (by decide) (by decide) rfl (by decide) rfl (D_Text_init 9 rfl) ?_
  refine j_aloadn (k := 0) (D_Text_init 10 rfl) rfl rfl ?_
  refine j_sipush (v := 801) (D_Text_init 11 rfl) rfl ?_
  refine j_newI (N := 801) kd_18 aw_I (wr_lit rfl) rfl (by decide) (by decide) (by decide) (D_Text_init 12 rfl) ?_
  refine j_putRF rfl rfl ho_Text fa_Text_19 (by first | exact Or.inl ⟨_, rfl⟩ | exact Or.inr ⟨_, rfl⟩) kd_15 (by decide) (by decide) rfl (by decide) rfl (D_Text_init 13 rfl) ?_
  refine j_aloadn (k := 0) (D_Text_init 14 rfl) rfl rfl ?_
  refine j_sipush (v := 801) (D_Text_init 15 rfl) rfl ?_
  refine j_newI (N := 801) kd_19 aw_I (wr_lit rfl) rfl (by decide) (by decide) (by decide) (D_Text_init 16 rfl) ?_
  refine j_putRF rfl rfl ho_Text fa_Text_22 (by first | exact Or.inl ⟨_, rfl⟩ | exact Or.inr ⟨_, rfl⟩) kd_15 (by decide) (by decide) rfl (by decide) rfl (D_Text_init 17 rfl) ?_
  refine j_aloadn (k := 0) (D_Text_init 18 rfl) rfl rfl ?_
  refine j_sipush (v := 801) (D_Text_init 19 rfl) rfl ?_
  refine j_newI (N := 801) kd_20 aw_I (wr_lit rfl) rfl (by decide) (by decide) (by decide) (D_Text_init 20 rfl) ?_
  refine j_putRF rfl rfl ho_Text fa_Text_25 (by first | exact Or.inl ⟨_, rfl⟩ | exact Or.inr ⟨_, rfl⟩) kd_15 (by decide) (by decide) rfl (by decide) rfl (D_Text_init 21 rfl) ?_
  refine j_aloadn (k := 0) (D_Text_init 22 rfl) rfl rfl ?_
  refine j_iconst (v := (-1)) (D_Text_init 23 rfl) rfl ?_
  refine j_putI rfl fa_Text_28 kd_15 (by decide) (by decide) rfl (D_Text_init 24 rfl) ?_
  refine j_iconst (v := 1) (D_Text_init 25 rfl) rfl ?_
  refine j_istoren (L' := [(1, vi 1), (0, rf X 15)]) (D_Text_init 26 rfl) rfl (wr_lit rfl) (by decide) rfl ?_
  refine j_iconst (v := 0) (D_Text_init 27 rfl) rfl ?_
  refine j_istoren (L' := [(2, vi 0), (1, vi 1), (0, rf X 15)]) (D_Text_init 28 rfl) rfl (wr_lit rfl) (by decide) rfl ?_
  refine j_iloadn (k := 0) (D_Text_init 29 rfl) rfl rfl ?_
  refine j_ldcS (i := 0) rfl rfl (D_Text_init 30 rfl) ?_
  refine j_cKi (As := []) (c_String_length (i := 0) (by decide)) rfl lk_Text_34 mok_String_length (by decide) (by decide) rfl rfl (Nat.le_of_ble_eq_true rfl) (D_Text_init 31 rfl) (fun _ => ?_) (by decide)
  refine j_top0 (x' := 199) (by decide +kernel) ?_
  refine j_ic_ge (tgt := 101) (D_Text_init 32 rfl) rfl (wr_lit rfl) (wr_lit rfl) (fun h => absurd h (by decide)) (fun _ => ?_)
  refine j_iloadn (k := 1) (D_Text_init 33 rfl) rfl rfl ?_
  refine j_bipush (v := 36) (D_Text_init 34 rfl) rfl ?_
  refine j_ic_gt (tgt := 101) (D_Text_init 35 rfl) rfl (wr_lit rfl) (wr_lit rfl) (fun h => absurd h (by decide)) (fun _ => ?_)
  refine j_ldcS (i := 0) rfl rfl (D_Text_init 36 rfl) ?_
  refine j_iloadn (k := 0) (D_Text_init 37 rfl) rfl rfl ?_
  refine j_cKi (As := [vi 0]) (c_String_charAt (i := 0) (x := 0) (by decide) (wr_lit rfl) (by decide) (by decide)) rfl lk_Text_40 mok_String_charAt (by decide) (by decide) rfl rfl (Nat.le_of_ble_eq_true rfl) (D_Text_init 38 rfl) (fun _ => ?_) (by decide)
  refine j_top0 (x' := 119) (by decide +kernel) ?_
  refine j_bipush (v := 32) (D_Text_init 39 rfl) rfl ?_
  refine j_ic_ne (tgt := 95) (D_Text_init 40 rfl) rfl (wr_lit rfl) (wr_lit rfl) (fun _ => ?_) (fun h => absurd h (by decide))
  refine j_iinc (k := 0) (x' := 1) (L' := [(2, vi 1), (1, vi 1), (0, rf X 15)]) (D_Text_init 49 rfl) rfl (by decide +kernel) (by decide) rfl ?_
  refine j_goto (tgt := 57) (D_Text_init 50 rfl) rfl ?_
  refine j_iloadn (k := 0) (D_Text_init 29 rfl) rfl rfl ?_
  refine j_ldcS (i := 0) rfl rfl (D_Text_init 30 rfl) ?_
  refine j_cKi (As := []) (c_String_length (i := 0) (by decide)) rfl lk_Text_34 mok_String_length (by decide) (by decide) rfl rfl (Nat.le_of_ble_eq_true rfl) (D_Text_init 31 rfl) (fun _ => ?_) (by decide)
  refine j_top0 (x' := 199) (by decide +kernel) ?_
  refine j_ic_ge (tgt := 101) (D_Text_init 32 rfl) rfl (wr_lit rfl) (wr_lit rfl) (fun h => absurd h (by decide)) (fun _ => ?_)
  refine j_iloadn (k := 1) (D_Text_init 33 rfl) rfl rfl ?_
  refine j_bipush (v := 36) (D_Text_init 34 rfl) rfl ?_
  refine j_ic_gt (tgt := 101) (D_Text_init 35 rfl) rfl (wr_lit rfl) (wr_lit rfl) (fun h => absurd h (by decide)) (fun _ => ?_)
  refine j_ldcS (i := 0) rfl rfl (D_Text_init 36 rfl) ?_
  refine j_iloadn (k := 0) (D_Text_init 37 rfl) rfl rfl ?_
  refine j_cKi (As := [vi 1]) (c_String_charAt (i := 0) (x := 1) (by decide) (wr_lit rfl) (by decide) (by decide)) rfl lk_Text_40 mok_String_charAt (by decide) (by decide) rfl rfl (Nat.le_of_ble_eq_true rfl) (D_Text_init 38 rfl) (fun _ => ?_) (by decide)
  refine j_top0 (x' := 111) (by decide +kernel) ?_
  refine j_bipush (v := 32) (D_Text_init 39 rfl) rfl ?_
  refine j_ic_ne (tgt := 95) (D_Text_init 40 rfl) rfl (wr_lit rfl) (wr_lit rfl) (fun _ => ?_) (fun h => absurd h (by decide))
  refine j_iinc (k := 0) (x' := 2) (L' := [(2, vi 2), (1, vi 1), (0, rf X 15)]) (D_Text_init 49 rfl) rfl (by decide +kernel) (by decide) rfl ?_
  refine j_goto (tgt := 57) (D_Text_init 50 rfl) rfl ?_
  refine j_iloadn (k := 0) (D_Text_init 29 rfl) rfl rfl ?_
  refine j_ldcS (i := 0) rfl rfl (D_Text_init 30 rfl) ?_
  refine j_cKi (As := []) (c_String_length (i := 0) (by decide)) rfl lk_Text_34 mok_String_length (by decide) (by decide) rfl rfl (Nat.le_of_ble_eq_true rfl) (D_Text_init 31 rfl) (fun _ => ?_) (by decide)
  refine j_top0 (x' := 199) (by decide +kernel) ?_
  refine j_ic_ge (tgt := 101) (D_Text_init 32 rfl) rfl (wr_lit rfl) (wr_lit rfl) (fun h => absurd h (by decide)) (fun _ => ?_)
  refine j_iloadn (k := 1) (D_Text_init 33 rfl) rfl rfl ?_
  refine j_bipush (v := 36) (D_Text_init 34 rfl) rfl ?_
  refine j_ic_gt (tgt := 101) (D_Text_init 35 rfl) rfl (wr_lit rfl) (wr_lit rfl) (fun h => absurd h (by decide)) (fun _ => ?_)
  refine j_ldcS (i := 0) rfl rfl (D_Text_init 36 rfl) ?_
  refine j_iloadn (k := 0) (D_Text_init 37 rfl) rfl rfl ?_
  refine j_cKi (As := [vi 2]) (c_String_charAt (i := 0) (x := 2) (by decide) (wr_lit rfl) (by decide) (by decide)) rfl lk_Text_40 mok_String_charAt (by decide) (by decide) rfl rfl (Nat.le_of_ble_eq_true rfl) (D_Text_init 38 rfl) (fun _ => ?_) (by decide)
  refine j_top0 (x' := 114) (by decide +kernel) ?_
  refine j_bipush (v := 32) (D_Text_init 39 rfl) rfl ?_
  refine j_ic_ne (tgt := 95) (D_Text_init 40 rfl) rfl (wr_lit rfl) (wr_lit rfl) (fun _ => ?_) (fun h => absurd h (by decide))
  refine j_iinc (k := 0) (x' := 3) (L' := [(2, vi 3), (1, vi 1), (0, rf X 15)]) (D_Text_init 49 rfl) rfl (by decide +kernel) (by decide) rfl ?_
  refine j_goto (tgt := 57) (D_Text_init 50 rfl) rfl ?_
  refine j_iloadn (k := 0) (D_Text_init 29 rfl) rfl rfl ?_
  refine j_ldcS (i := 0) rfl rfl (D_Text_init 30 rfl) ?_
  refine j_cKi (As := []) (c_String_length (i := 0) (by decide)) rfl lk_Text_34 mok_String_length (by decide) (by decide) rfl rfl (Nat.le_of_ble_eq_true rfl) (D_Text_init 31 rfl) (fun _ => ?_) (by decide)
  refine j_top0 (x' := 199) (by decide +kernel) ?_
  refine j_ic_ge (tgt := 101) (D_Text_init 32 rfl) rfl (wr_lit rfl) (wr_lit rfl) (fun h => absurd h (by decide)) (fun _ => ?_)
  refine j_iloadn (k := 1) (D_Text_init 33 rfl) rfl rfl ?_
  refine j_bipush (v := 36) (D_Text_init 34 rfl) rfl ?_
  refine j_ic_gt (tgt := 101) (D_Text_init 35 rfl) rfl (wr_lit rfl) (wr_lit rfl) (fun h => absurd h (by decide)) (fun _ => ?_)
  refine j_ldcS (i := 0) rfl rfl (D_Text_init 36 rfl) ?_
  refine j_iloadn (k := 0) (D_Text_init 37 rfl) rfl rfl ?_
  refine j_cKi (As := [vi 3]) (c_String_charAt (i := 0) (x := 3) (by decide) (wr_lit rfl) (by decide) (by decide)) rfl lk_Text_40 mok_String_charAt (by decide) (by decide) rfl rfl (Nat.le_of_ble_eq_true rfl) (D_Text_init 38 rfl) (fun _ => ?_) (by decide)
  refine j_top0 (x' := 116) (by decide +kernel) ?_
  refine j_bipush (v := 32) (D_Text_init 39 rfl) rfl ?_
  refine j_ic_ne (tgt := 95) (D_Text_init 40 rfl) rfl (wr_lit rfl) (wr_lit rfl) (fun _ => ?_) (fun h => absurd h (by decide))
  refine j_iinc (k := 0) (x' := 4) (L' := [(2, vi 4), (1, vi 1), (0, rf X 15)]) (D_Text_init 49 rfl) rfl (by decide +kernel) (by decide) rfl ?_
  refine j_goto (tgt := 57) (D_Text_init 50 rfl) rfl ?_
  refine j_iloadn (k := 0) (D_Text_init 29 rfl) rfl rfl ?_
  refine j_ldcS (i := 0) rfl rfl (D_Text_init 30 rfl) ?_
  refine j_cKi (As := []) (c_String_length (i := 0) (by decide)) rfl lk_Text_34 mok_String_length (by decide) (by decide) rfl rfl (Nat.le_of_ble_eq_true rfl) (D_Text_init 31 rfl) (fun _ => ?_) (by decide)
  refine j_top0 (x' := 199) (by decide +kernel) ?_
  refine j_ic_ge (tgt := 101) (D_Text_init 32 rfl) rfl (wr_lit rfl) (wr_lit rfl) (fun h => absurd h (by decide)) (fun _ => ?_)
  refine j_iloadn (k := 1) (D_Text_init 33 rfl) rfl rfl ?_
  refine j_bipush (v := 36) (D_Text_init 34 rfl) rfl ?_
  refine j_ic_gt (tgt := 101) (D_Text_init 35 rfl) rfl (wr_lit rfl) (wr_lit rfl) (fun h => absurd h (by decide)) (fun _ => ?_)
  refine j_ldcS (i := 0) rfl rfl (D_Text_init 36 rfl) ?_
  refine j_iloadn (k := 0) (D_Text_init 37 rfl) rfl rfl ?_
  refine j_cKi (As := [vi 4]) (c_String_charAt (i := 0) (x := 4) (by decide) (wr_lit rfl) (by decide) (by decide)) rfl lk_Text_40 mok_String_charAt (by decide) (by decide) rfl rfl (Nat.le_of_ble_eq_true rfl) (D_Text_init 38 rfl) (fun _ => ?_) (by decide)
  refine j_top0 (x' := 104) (by decide +kernel) ?_
  refine j_bipush (v := 32) (D_Text_init 39 rfl) rfl ?_
  refine j_ic_ne (tgt := 95) (D_Text_init 40 rfl) rfl (wr_lit rfl) (wr_lit rfl) (fun _ => ?_) (fun h => absurd h (by decide))
  refine j_iinc (k := 0) (x' := 5) (L' := [(2, vi 5), (1, vi 1), (0, rf X 15)]) (D_Text_init 49 rfl) rfl (by decide +kernel) (by decide) rfl ?_
  refine j_goto (tgt := 57) (D_Text_init 50 rfl) rfl ?_
  refine j_iloadn (k := 0) (D_Text_init 29 rfl) rfl rfl ?_
  refine j_ldcS (i := 0) rfl rfl (D_Text_init 30 rfl) ?_
  refine j_cKi (As := []) (c_String_length (i := 0) (by decide)) rfl lk_Text_34 mok_String_length (by decide) (by decide) rfl rfl (Nat.le_of_ble_eq_true rfl) (D_Text_init 31 rfl) (fun _ => ?_) (by decide)
  refine j_top0 (x' := 199) (by decide +kernel) ?_
  refine j_ic_ge (tgt := 101) (D_Text_init 32 rfl) rfl (wr_lit rfl) (wr_lit rfl) (fun h => absurd h (by decide)) (fun _ => ?_)
  refine j_iloadn (k := 1) (D_Text_init 33 rfl) rfl rfl ?_
  refine j_bipush (v := 36) (D_Text_init 34 rfl) rfl ?_
  refine j_ic_gt (tgt := 101) (D_Text_init 35 rfl) rfl (wr_lit rfl) (wr_lit rfl) (fun h => absurd h (by decide)) (fun _ => ?_)
  refine j_ldcS (i := 0) rfl rfl (D_Text_init 36 rfl) ?_
  refine j_iloadn (k := 0) (D_Text_init 37 rfl) rfl rfl ?_
  refine j_cKi (As := [vi 5]) (c_String_charAt (i := 0) (x := 5) (by decide) (wr_lit rfl) (by decide) (by decide)) rfl lk_Text_40 mok_String_charAt (by decide) (by decide) rfl rfl (Nat.le_of_ble_eq_true rfl) (D_Text_init 38 rfl) (fun _ => ?_) (by decide)
  refine j_top0 (x' := 32) (by decide +kernel) ?_
  refine j_bipush (v := 32) (D_Text_init 39 rfl) rfl ?_
  refine j_ic_ne (tgt := 95) (D_Text_init 40 rfl) rfl (wr_lit rfl) (wr_lit rfl) (fun h => absurd rfl h) (fun _ => ?_)
  refine j_aloadn (k := 2) (D_Text_init 41 rfl) rfl rfl ?_
  refine j_getR (t := 17) rfl fa_Text_15 kd_15 (by decide) (by decide) rfl (fun _ => by decide +kernel) (by decide) (D_Text_init 42 rfl) ?_
  refine j_iloadn (k := 1) (D_Text_init 43 rfl) rfl rfl ?_
  refine j_iloadn (k := 0) (D_Text_init 44 rfl) rfl rfl ?_
  refine j_iconst (v := 1) (D_Text_init 45 rfl) rfl ?_
  refine j_iadd (D_Text_init 46 rfl) ?_
  refine j_top0 (x' := 6) (by decide +kernel) ?_
  refine j_iast (NI := 37) (D_Text_init 47 rfl) kd_17 (by decide) (wr_lit rfl) rfl (by decide) (by decide) ?_
  refine j_iinc (k := 1) (x' := 2) (L' := [(1, vi 2), (2, vi 5), (0, rf X 15)]) (D_Text_init 48 rfl) rfl (by decide +kernel) (by decide) rfl ?_
  refine j_iinc (k := 1) (x' := 6) (L' := [(2, vi 6), (1, vi 2), (0, rf X 15)]) (D_Text_init 49 rfl) rfl (by decide +kernel) (by decide) rfl ?_
  refine j_goto (tgt := 57) (D_Text_init 50 rfl) rfl ?_
  refine j_iloadn (k := 0) (D_Text_init 29 rfl) rfl rfl ?_
  refine j_ldcS (i := 0) rfl rfl (D_Text_init 30 rfl) ?_
  refine j_cKi (As := []) (c_String_length (i := 0) (by decide)) rfl lk_Text_34 mok_String_length (by decide) (by decide) rfl rfl (Nat.le_of_ble_eq_true rfl) (D_Text_init 31 rfl) (fun _ => ?_) (by decide)
  refine j_top0 (x' := 199) (by decide +kernel) ?_
  refine j_ic_ge (tgt := 101) (D_Text_init 32 rfl) rfl (wr_lit rfl) (wr_lit rfl) (fun h => absurd h (by decide)) (fun _ => ?_)
  refine j_iloadn (k := 1) (D_Text_init 33 rfl) rfl rfl ?_
  refine j_bipush (v := 36) (D_Text_init 34 rfl) rfl ?_
  refine j_ic_gt (tgt := 101) (D_Text_init 35 rfl) rfl (wr_lit rfl) (wr_lit rfl) (fun h => absurd h (by decide)) (fun _ => ?_)
  refine j_ldcS (i := 0) rfl rfl (D_Text_init 36 rfl) ?_
  refine j_iloadn (k := 0) (D_Text_init 37 rfl) rfl rfl ?_
  refine j_cKi (As := [vi 6]) (c_String_charAt (i := 0) (x := 6) (by decide) (wr_lit rfl) (by decide) (by decide)) rfl lk_Text_40 mok_String_charAt (by decide) (by decide) rfl rfl (Nat.le_of_ble_eq_true rfl) (D_Text_init 38 rfl) (fun _ => ?_) (by decide)
  refine j_top0 (x' := 97) (by decide +kernel) ?_
  refine j_bipush (v := 32) (D_Text_init 39 rfl) rfl ?_
  refine j_ic_ne (tgt := 95) (D_Text_init 40 rfl) rfl (wr_lit rfl) (wr_lit rfl) (fun _ => ?_) (fun h => absurd h (by decide))
  refine j_iinc (k := 0) (x' := 7) (L' := [(2, vi 7), (1, vi 2), (0, rf X 15)]) (D_Text_init 49 rfl) rfl (by decide +kernel) (by decide) rfl ?_
  refine j_goto (tgt := 57) (D_Text_init 50 rfl) rfl ?_
  refine j_iloadn (k := 0) (D_Text_init 29 rfl) rfl rfl ?_
  refine j_ldcS (i := 0) rfl rfl (D_Text_init 30 rfl) ?_
  refine j_cKi (As := []) (c_String_length (i := 0) (by decide)) rfl lk_Text_34 mok_String_length (by decide) (by decide) rfl rfl (Nat.le_of_ble_eq_true rfl) (D_Text_init 31 rfl) (fun _ => ?_) (by decide)
  refine j_top0 (x' := 199) (by decide +kernel) ?_
  refine j_ic_ge (tgt := 101) (D_Text_init 32 rfl) rfl (wr_lit rfl) (wr_lit rfl) (fun h => absurd h (by decide)) (fun _ => ?_)
  refine j_iloadn (k := 1) (D_Text_init 33 rfl) rfl rfl ?_
  refine j_bipush (v := 36) (D_Text_init 34 rfl) rfl ?_
  refine j_ic_gt (tgt := 101) (D_Text_init 35 rfl) rfl (wr_lit rfl) (wr_lit rfl) (fun h => absurd h (by decide)) (fun _ => ?_)
  refine j_ldcS (i := 0) rfl rfl (D_Text_init 36 rfl) ?_
  refine j_iloadn (k := 0) (D_Text_init 37 rfl) rfl rfl ?_
  refine j_cKi (As := [vi 7]) (c_String_charAt (i := 0) (x := 7) (by decide) (wr_lit rfl) (by decide) (by decide)) rfl lk_Text_40 mok_String_charAt (by decide) (by decide) rfl rfl (Nat.le_of_ble_eq_true rfl) (D_Text_init 38 rfl) (fun _ => ?_) (by decide)
  refine j_top0 (x' := 99) (by decide +kernel) ?_
  refine j_bipush (v := 32) (D_Text_init 39 rfl) rfl ?_
  refine j_ic_ne (tgt := 95) (D_Text_init 40 rfl) rfl (wr_lit rfl) (wr_lit rfl) (fun _ => ?_) (fun h => absurd h (by decide))
  refine j_iinc (k := 0) (x' := 8) (L' := [(2, vi 8), (1, vi 2), (0, rf X 15)]) (D_Text_init 49 rfl) rfl (by decide +kernel) (by decide) rfl ?_
  refine j_goto (tgt := 57) (D_Text_init 50 rfl) rfl ?_
  refine j_iloadn (k := 0) (D_Text_init 29 rfl) rfl rfl ?_
  refine j_ldcS (i := 0) rfl rfl (D_Text_init 30 rfl) ?_
  refine j_cKi (As := []) (c_String_length (i := 0) (by decide)) rfl lk_Text_34 mok_String_length (by decide) (by decide) rfl rfl (Nat.le_of_ble_eq_true rfl) (D_Text_init 31 rfl) (fun _ => ?_) (by decide)
  refine j_top0 (x' := 199) (by decide +kernel) ?_
  refine j_ic_ge (tgt := 101) (D_Text_init 32 rfl) rfl (wr_lit rfl) (wr_lit rfl) (fun h => absurd h (by decide)) (fun _ => ?_)
  refine j_iloadn (k := 1) (D_Text_init 33 rfl) rfl rfl ?_
  refine j_bipush (v := 36) (D_Text_init 34 rfl) rfl ?_
  refine j_ic_gt (tgt := 101) (D_Text_init 35 rfl) rfl (wr_lit rfl) (wr_lit rfl) (fun h => absurd h (by decide)) (fun _ => ?_)
  refine j_ldcS (i := 0) rfl rfl (D_Text_init 36 rfl) ?_
  refine j_iloadn (k := 0) (D_Text_init 37 rfl) rfl rfl ?_
  refine j_cKi (As := [vi 8]) (c_String_charAt (i := 0) (x := 8) (by decide) (wr_lit rfl) (by decide) (by decide)) rfl lk_Text_40 mok_String_charAt (by decide) (by decide) rfl rfl (Nat.le_of_ble_eq_true rfl) (D_Text_init 38 rfl) (fun _ => ?_) (by decide)
  refine j_top0 (x' := 114) (by decide +kernel) ?_
  refine j_bipush (v := 32) (D_Text_init 39 rfl) rfl ?_
  refine j_ic_ne (tgt := 95) (D_Text_init 40 rfl) rfl (wr_lit rfl) (wr_lit rfl) (fun _ => ?_) (fun h => absurd h (by decide))
  refine j_iinc (k := 0) (x' := 9) (L' := [(2, vi 9), (1, vi 2), (0, rf X 15)]) (D_Text_init 49 rfl) rfl (by decide +kernel) (by decide) rfl ?_
  refine j_goto (tgt := 57) (D_Text_init 50 rfl) rfl ?_
  refine j_iloadn (k := 0) (D_Text_init 29 rfl) rfl rfl ?_
  refine j_ldcS (i := 0) rfl rfl (D_Text_init 30 rfl) ?_
  refine j_cKi (As := []) (c_String_length (i := 0) (by decide)) rfl lk_Text_34 mok_String_length (by decide) (by decide) rfl rfl (Nat.le_of_ble_eq_true rfl) (D_Text_init 31 rfl) (fun _ => ?_) (by decide)
  refine j_top0 (x' := 199) (by decide +kernel) ?_
  refine j_ic_ge (tgt := 101) (D_Text_init 32 rfl) rfl (wr_lit rfl) (wr_lit rfl) (fun h => absurd h (by decide)) (fun _ => ?_)
  refine j_iloadn (k := 1) (D_Text_init 33 rfl) rfl rfl ?_
  refine j_bipush (v := 36) (D_Text_init 34 rfl) rfl ?_
  refine j_ic_gt (tgt := 101) (D_Text_init 35 rfl) rfl (wr_lit rfl) (wr_lit rfl) (fun h => absurd h (by decide)) (fun _ => ?_)
  refine j_ldcS (i := 0) rfl rfl (D_Text_init 36 rfl) ?_
  refine j_iloadn (k := 0) (D_Text_init 37 rfl) rfl rfl ?_
  refine j_cKi (As := [vi 9]) (c_String_charAt (i := 0) (x := 9) (by decide) (wr_lit rfl) (by decide) (by decide)) rfl lk_Text_40 mok_String_charAt (by decide) (by decide) rfl rfl (Nat.le_of_ble_eq_true rfl) (D_Text_init 38 rfl) (fun _ => ?_) (by decide)
  refine j_top0 (x' := 101) (by decide +kernel) ?_
  refine j_bipush (v := 32) (D_Text_init 39 rfl) rfl ?_
  refine j_ic_ne (tgt := 95) (D_Text_init 40 rfl) rfl (wr_lit rfl) (wr_lit rfl) (fun _ => ?_) (fun h => absurd h (by decide))
  refine j_iinc (k := 0) (x' := 10) (L' := [(2, vi 10), (1, vi 2), (0, rf X 15)]) (D_Text_init 49 rfl) rfl (by decide +kernel) (by decide) rfl ?_
  refine j_goto (tgt := 57) (D_Text_init 50 rfl) rfl ?_
  refine j_iloadn (k := 0) (D_Text_init 29 rfl) rfl rfl ?_
  refine j_ldcS (i := 0) rfl rfl (D_Text_init 30 rfl) ?_
  refine j_cKi (As := []) (c_String_length (i := 0) (by decide)) rfl lk_Text_34 mok_String_length (by decide) (by decide) rfl rfl (Nat.le_of_ble_eq_true rfl) (D_Text_init 31 rfl) (fun _ => ?_) (by decide)
  refine j_top0 (x' := 199) (by decide +kernel) ?_
  refine j_ic_ge (tgt := 101) (D_Text_init 32 rfl) rfl (wr_lit rfl) (wr_lit rfl) (fun h => absurd h (by decide)) (fun _ => ?_)
  refine j_iloadn (k := 1) (D_Text_init 33 rfl) rfl rfl ?_
  refine j_bipush (v := 36) (D_Text_init 34 rfl) rfl ?_
  refine j_ic_gt (tgt := 101) (D_Text_init 35 rfl) rfl (wr_lit rfl) (wr_lit rfl) (fun h => absurd h (by decide)) (fun _ => ?_)
  refine j_ldcS (i := 0) rfl rfl (D_Text_init 36 rfl) ?_
  refine j_iloadn (k := 0) (D_Text_init 37 rfl) rfl rfl ?_
  refine j_cKi (As := [vi 10]) (c_String_charAt (i := 0) (x := 10) (by decide) (wr_lit rfl) (by decide) (by decide)) rfl lk_Text_40 mok_String_charAt (by decide) (by decide) rfl rfl (Nat.le_of_ble_eq_true rfl) (D_Text_init 38 rfl) (fun _ => ?_) (by decide)
  refine j_top0 (x' := 115) (by decide +kernel) ?_
  refine j_bipush (v := 32) (D_Text_init 39 rfl) rfl ?_
  refine j_ic_ne (tgt := 95) (D_Text_init 40 rfl) rfl (wr_lit rfl) (wr_lit rfl) (fun _ => ?_) (fun h => absurd h (by decide))
  refine j_iinc (k := 0) (x' := 11) (L' := [(2, vi 11), (1, vi 2), (0, rf X 15)]) (D_Text_init 49 rfl) rfl (by decide +kernel) (by decide) rfl ?_
  refine j_goto (tgt := 57) (D_Text_init 50 rfl) rfl ?_
  refine j_iloadn (k := 0) (D_Text_init 29 rfl) rfl rfl ?_
  refine j_ldcS (i := 0) rfl rfl (D_Text_init 30 rfl) ?_
  refine j_cKi (As := []) (c_String_length (i := 0) (by decide)) rfl lk_Text_34 mok_String_length (by decide) (by decide) rfl rfl (Nat.le_of_ble_eq_true rfl) (D_Text_init 31 rfl) (fun _ => ?_) (by decide)
  refine j_top0 (x' := 199) (by decide +kernel) ?_
  refine j_ic_ge (tgt := 101) (D_Text_init 32 rfl) rfl (wr_lit rfl) (wr_lit rfl) (fun h => absurd h (by decide)) (fun _ => ?_)
  refine j_iloadn (k := 1) (D_Text_init 33 rfl) rfl rfl ?_
  refine j_bipush (v := 36) (D_Text_init 34 rfl) rfl ?_
  refine j_ic_gt (tgt := 101) (D_Text_init 35 rfl) rfl (wr_lit rfl) (wr_lit rfl) (fun h => absurd h (by decide)) (fun _ => ?_)
  refine j_ldcS (i := 0) rfl rfl (D_Text_init 36 rfl) ?_
  refine j_iloadn (k := 0) (D_Text_init 37 rfl) rfl rfl ?_
  refine j_cKi (As := [vi 11]) (c_String_charAt (i := 0) (x := 11) (by decide) (wr_lit rfl) (by decide) (by decide)) rfl lk_Text_40 mok_String_charAt (by decide) (by decide) rfl rfl (Nat.le_of_ble_eq_true rfl) (D_Text_init 38 rfl) (fun _ => ?_) (by decide)
  refine j_top0 (x' := 32) (by decide +kernel) ?_
  refine j_bipush (v := 32) (D_Text_init 39 rfl) rfl ?_
  refine j_ic_ne (tgt := 95) (D_Text_init 40 rfl) rfl (wr_lit rfl) (wr_lit rfl) (fun h => absurd rfl h) (fun _ => ?_)
  refine j_aloadn (k := 2) (D_Text_init 41 rfl) rfl rfl ?_
  refine j_getR (t := 17) rfl fa_Text_15 kd_15 (by decide) (by decide) rfl (fun _ => by decide +kernel) (by decide) (D_Text_init 42 rfl) ?_
  refine j_iloadn (k := 1) (D_Text_init 43 rfl) rfl rfl ?_
  refine j_iloadn (k := 0) (D_Text_init 44 rfl) rfl rfl ?_
  refine j_iconst (v := 1) (D_Text_init 45 rfl) rfl ?_
  refine j_iadd (D_Text_init 46 rfl) ?_
  refine j_top0 (x' := 12) (by decide +kernel) ?_
  refine j_iast (NI := 37) (D_Text_init 47 rfl) kd_17 (by decide) (wr_lit rfl) rfl (by decide) (by decide) ?_
  refine j_iinc (k := 1) (x' := 3) (L' := [(1, vi 3), (2, vi 11), (0, rf X 15)]) (D_Text_init 48 rfl) rfl (by decide +kernel) (by decide) rfl ?_
  refine j_iinc (k := 1) (x' := 12) (L' := [(2, vi 12), (1, vi 3), (0, rf X 15)]) (D_Text_init 49 rfl) rfl (by decide +kernel) (by decide) rfl ?_
  refine j_goto (tgt := 57) (D_Text_init 50 rfl) rfl ?_
  refine j_iloadn (k := 0) (D_Text_init 29 rfl) rfl rfl ?_
  refine j_ldcS (i := 0) rfl rfl (D_Text_init 30 rfl) ?_
  refine j_cKi (As := []) (c_String_length (i := 0) (by decide)) rfl lk_Text_34 mok_String_length (by decide) (by decide) rfl rfl (Nat.le_of_ble_eq_true rfl) (D_Text_init 31 rfl) (fun _ => ?_) (by decide)
  refine j_top0 (x' := 199) (by decide +kernel) ?_
  refine j_ic_ge (tgt := 101) (D_Text_init 32 rfl) rfl (wr_lit rfl) (wr_lit rfl) (fun h => absurd h (by decide)) (fun _ => ?_)
  refine j_iloadn (k := 1) (D_Text_init 33 rfl) rfl rfl ?_
  refine j_bipush (v := 36) (D_Text_init 34 rfl) rfl ?_
  refine j_ic_gt (tgt := 101) (D_Text_init 35 rfl) rfl (wr_lit rfl) (wr_lit rfl) (fun h => absurd h (by decide)) (fun _ => ?_)
  refine j_ldcS (i := 0) rfl rfl (D_Text_init 36 rfl) ?_
  refine j_iloadn (k := 0) (D_Text_init 37 rfl) rfl rfl ?_
  refine j_cKi (As := [vi 12]) (c_String_charAt (i := 0) (x := 12) (by decide) (wr_lit rfl) (by decide) (by decide)) rfl lk_Text_40 mok_String_charAt (by decide) (by decide) rfl rfl (Nat.le_of_ble_eq_true rfl) (D_Text_init 38 rfl) (fun _ => ?_) (by decide)
  refine j_top0 (x' := 115) (by decide +kernel) ?_
  refine j_bipush (v := 32) (D_Text_init 39 rfl) rfl ?_
  refine j_ic_ne (tgt := 95) (D_Text_init 40 rfl) rfl (wr_lit rfl) (wr_lit rfl) (fun _ => ?_) (fun h => absurd h (by decide))
  refine j_iinc (k := 0) (x' := 13) (L' := [(2, vi 13), (1, vi 3), (0, rf X 15)]) (D_Text_init 49 rfl) rfl (by decide +kernel) (by decide) rfl ?_
  refine j_goto (tgt := 57) (D_Text_init 50 rfl) rfl ?_
  refine j_iloadn (k := 0) (D_Text_init 29 rfl) rfl rfl ?_
  refine j_ldcS (i := 0) rfl rfl (D_Text_init 30 rfl) ?_
  refine j_cKi (As := []) (c_String_length (i := 0) (by decide)) rfl lk_Text_34 mok_String_length (by decide) (by decide) rfl rfl (Nat.le_of_ble_eq_true rfl) (D_Text_init 31 rfl) (fun _ => ?_) (by decide)
  refine j_top0 (x' := 199) (by decide +kernel) ?_
  refine j_ic_ge (tgt := 101) (D_Text_init 32 rfl) rfl (wr_lit rfl) (wr_lit rfl) (fun h => absurd h (by decide)) (fun _ => ?_)
  refine j_iloadn (k := 1) (D_Text_init 33 rfl) rfl rfl ?_
  refine j_bipush (v := 36) (D_Text_init 34 rfl) rfl ?_
  refine j_ic_gt (tgt := 101) (D_Text_init 35 rfl) rfl (wr_lit rfl) (wr_lit rfl) (fun h => absurd h (by decide)) (fun _ => ?_)
  refine j_ldcS (i := 0) rfl rfl (D_Text_init 36 rfl) ?_
  refine j_iloadn (k := 0) (D_Text_init 37 rfl) rfl rfl ?_
  refine j_cKi (As := [vi 13]) (c_String_charAt (i := 0) (x := 13) (by decide) (wr_lit rfl) (by decide) (by decide)) rfl lk_Text_40 mok_String_charAt (by decide) (by decide) rfl rfl (Nat.le_of_ble_eq_true rfl) (D_Text_init 38 rfl) (fun _ => ?_) (by decide)
  refine j_top0 (x' := 104) (by decide +kernel) ?_
  refine j_bipush (v := 32) (D_Text_init 39 rfl) rfl ?_
  refine j_ic_ne (tgt := 95) (D_Text_init 40 rfl) rfl (wr_lit rfl) (wr_lit rfl) (fun _ => ?_) (fun h => absurd h (by decide))
  refine j_iinc (k := 0) (x' := 14) (L' := [(2, vi 14), (1, vi 3), (0, rf X 15)]) (D_Text_init 49 rfl) rfl (by decide +kernel) (by decide) rfl ?_
  refine j_goto (tgt := 57) (D_Text_init 50 rfl) rfl ?_
  refine j_iloadn (k := 0) (D_Text_init 29 rfl) rfl rfl ?_
  refine j_ldcS (i := 0) rfl rfl (D_Text_init 30 rfl) ?_
  refine j_cKi (As := []) (c_String_length (i := 0) (by decide)) rfl lk_Text_34 mok_String_length (by decide) (by decide) rfl rfl (Nat.le_of_ble_eq_true rfl) (D_Text_init 31 rfl) (fun _ => ?_) (by decide)
  refine j_top0 (x' := 199) (by decide +kernel) ?_
  refine j_ic_ge (tgt := 101) (D_Text_init 32 rfl) rfl (wr_lit rfl) (wr_lit rfl) (fun h => absurd h (by decide)) (fun _ => ?_)
  refine j_iloadn (k := 1) (D_Text_init 33 rfl) rfl rfl ?_
  refine j_bipush (v := 36) (D_Text_init 34 rfl) rfl ?_
  refine j_ic_gt (tgt := 101) (D_Text_init 35 rfl) rfl (wr_lit rfl) (wr_lit rfl) (fun h => absurd h (by decide)) (fun _ => ?_)
  refine j_ldcS (i := 0) rfl rfl (D_Text_init 36 rfl) ?_
  refine j_iloadn (k := 0) (D_Text_init 37 rfl) rfl rfl ?_
  refine j_cKi (As := [vi 14]) (c_String_charAt (i := 0) (x := 14) (by decide) (wr_lit rfl) (by decide) (by decide)) rfl lk_Text_40 mok_String_charAt (by decide) (by decide) rfl rfl (Nat.le_of_ble_eq_true rfl) (D_Text_init 38 rfl) (fun _ => ?_) (by decide)
  refine j_top0 (x' := 105) (by decide +kernel) ?_
  refine j_bipush (v := 32) (D_Text_init 39 rfl) rfl ?_
  refine j_ic_ne (tgt := 95) (D_Text_init 40 rfl) rfl (wr_lit rfl) (wr_lit rfl) (fun _ => ?_) (fun h => absurd h (by decide))
  refine j_iinc (k := 0) (x' := 15) (L' := [(2, vi 15), (1, vi 3), (0, rf X 15)]) (D_Text_init 49 rfl) rfl (by decide +kernel) (by decide) rfl ?_
  refine j_goto (tgt := 57) (D_Text_init 50 rfl) rfl ?_
  refine j_iloadn (k := 0) (D_Text_init 29 rfl) rfl rfl ?_
  refine j_ldcS (i := 0) rfl rfl (D_Text_init 30 rfl) ?_
  refine j_cKi (As := []) (c_String_length (i := 0) (by decide)) rfl lk_Text_34 mok_String_length (by decide) (by decide) rfl rfl (Nat.le_of_ble_eq_true rfl) (D_Text_init 31 rfl) (fun _ => ?_) (by decide)
  refine j_top0 (x' := 199) (by decide +kernel) ?_
  refine j_ic_ge (tgt := 101) (D_Text_init 32 rfl) rfl (wr_lit rfl) (wr_lit rfl) (fun h => absurd h (by decide)) (fun _ => ?_)
  refine j_iloadn (k := 1) (D_Text_init 33 rfl) rfl rfl ?_
  refine j_bipush (v := 36) (D_Text_init 34 rfl) rfl ?_
  refine j_ic_gt (tgt := 101) (D_Text_init 35 rfl) rfl (wr_lit rfl) (wr_lit rfl) (fun h => absurd h (by decide)) (fun _ => ?_)
  refine j_ldcS (i := 0) rfl rfl (D_Text_init 36 rfl) ?_
  refine j_iloadn (k := 0) (D_Text_init 37 rfl) rfl rfl ?_
  refine j_cKi (As := [vi 15]) (c_String_charAt (i := 0) (x := 15) (by decide) (wr_lit rfl) (by decide) (by decide)) rfl lk_Text_40 mok_String_charAt (by decide) (by decide) rfl rfl (Nat.le_of_ble_eq_true rfl) (D_Text_init 38 rfl) (fun _ => ?_) (by decide)
  refine j_top0 (x' := 114) (by decide +kernel) ?_
  refine j_bipush (v := 32) (D_Text_init 39 rfl) rfl ?_
  refine j_ic_ne (tgt := 95) (D_Text_init 40 rfl) rfl (wr_lit rfl) (wr_lit rfl) (fun _ => ?_) (fun h => absurd h (by decide))
  refine j_iinc (k := 0) (x' := 16) (L' := [(2, vi 16), (1, vi 3), (0, rf X 15)]) (D_Text_init 49 rfl) rfl (by decide +kernel) (by decide) rfl ?_
  refine j_goto (tgt := 57) (D_Text_init 50 rfl) rfl ?_
  refine j_iloadn (k := 0) (D_Text_init 29 rfl) rfl rfl ?_
  refine j_ldcS (i := 0) rfl rfl (D_Text_init 30 rfl) ?_
  refine j_cKi (As := []) (c_String_length (i := 0) (by decide)) rfl lk_Text_34 mok_String_length (by decide) (by decide) rfl rfl (Nat.le_of_ble_eq_true rfl) (D_Text_init 31 rfl) (fun _ => ?_) (by decide)
  refine j_top0 (x' := 199) (by decide +kernel) ?_
  refine j_ic_ge (tgt := 101) (D_Text_init 32 rfl) rfl (wr_lit rfl) (wr_lit rfl) (fun h => absurd h (by decide)) (fun _ => ?_)
  refine j_iloadn (k := 1) (D_Text_init 33 rfl) rfl rfl ?_
  refine j_bipush (v := 36) (D_Text_init 34 rfl) rfl ?_
  refine j_ic_gt (tgt := 101) (D_Text_init 35 rfl) rfl (wr_lit rfl) (wr_lit rfl) (fun h => absurd h (by decide)) (fun _ => ?_)
  refine j_ldcS (i := 0) rfl rfl (D_Text_init 36 rfl) ?_
  refine j_iloadn (k := 0) (D_Text_init 37 rfl) rfl rfl ?_
  refine j_cKi (As := [vi 16]) (c_String_charAt (i := 0) (x := 16) (by decide) (wr_lit rfl) (by decide) (by decide)) rfl lk_Text_40 mok_String_charAt (by decide) (by decide) rfl rfl (Nat.le_of_ble_eq_true rfl) (D_Text_init 38 rfl) (fun _ => ?_) (by decide)
  refine j_top0 (x' := 101) (by decide +kernel) ?_
  refine j_bipush (v := 32) (D_Text_init 39 rfl) rfl ?_
  refine j_ic_ne (tgt := 95) (D_Text_init 40 rfl) rfl (wr_lit rfl) (wr_lit rfl) (fun _ => ?_) (fun h => absurd h (by decide))
  refine j_iinc (k := 0) (x' := 17) (L' := [(2, vi 17), (1, vi 3), (0, rf X 15)]) (D_Text_init 49 rfl) rfl (by decide +kernel) (by decide) rfl ?_
  refine j_goto (tgt := 57) (D_Text_init 50 rfl) rfl ?_
  refine j_iloadn (k := 0) (D_Text_init 29 rfl) rfl rfl ?_
  refine j_ldcS (i := 0) rfl rfl (D_Text_init 30 rfl) ?_
  refine j_cKi (As := []) (c_String_length (i := 0) (by decide)) rfl lk_Text_34 mok_String_length (by decide) (by decide) rfl rfl (Nat.le_of_ble_eq_true rfl) (D_Text_init 31 rfl) (fun _ => ?_) (by decide)
  refine j_top0 (x' := 199) (by decide +kernel) ?_
  refine j_ic_ge (tgt := 101) (D_Text_init 32 rfl) rfl (wr_lit rfl) (wr_lit rfl) (fun h => absurd h (by decide)) (fun _ => ?_)
  refine j_iloadn (k := 1) (D_Text_init 33 rfl) rfl rfl ?_
  refine j_bipush (v := 36) (D_Text_init 34 rfl) rfl ?_
  refine j_ic_gt (tgt := 101) (D_Text_init 35 rfl) rfl (wr_lit rfl) (wr_lit rfl) (fun h => absurd h (by decide)) (fun _ => ?_)
  refine j_ldcS (i := 0) rfl rfl (D_Text_init 36 rfl) ?_
  refine j_iloadn (k := 0) (D_Text_init 37 rfl) rfl rfl ?_
  refine j_cKi (As := [vi 17]) (c_String_charAt (i := 0) (x := 17) (by decide) (wr_lit rfl) (by decide) (by decide)) rfl lk_Text_40 mok_String_charAt (by decide) (by decide) rfl rfl (Nat.le_of_ble_eq_true rfl) (D_Text_init 38 rfl) (fun _ => ?_) (by decide)
  refine j_top0 (x' := 32) (by decide +kernel) ?_
  refine j_bipush (v := 32) (D_Text_init 39 rfl) rfl ?_
  refine j_ic_ne (tgt := 95) (D_Text_init 40 rfl) rfl (wr_lit rfl) (wr_lit rfl) (fun h => absurd rfl h) (fun _ => ?_)
  refine j_aloadn (k := 2) (D_Text_init 41 rfl) rfl rfl ?_
  refine j_getR (t := 17) rfl fa_Text_15 kd_15 (by decide) (by decide) rfl (fun _ => by decide +kernel) (by decide) (D_Text_init 42 rfl) ?_
  refine j_iloadn (k := 1) (D_Text_init 43 rfl) rfl rfl ?_
  refine j_iloadn (k := 0) (D_Text_init 44 rfl) rfl rfl ?_
  refine j_iconst (v := 1) (D_Text_init 45 rfl) rfl ?_
  refine j_iadd (D_Text_init 46 rfl) ?_
  refine j_top0 (x' := 18) (by decide +kernel) ?_
  refine j_iast (NI := 37) (D_Text_init 47 rfl) kd_17 (by decide) (wr_lit rfl) rfl (by decide) (by decide) ?_
  refine j_iinc (k := 1) (x' := 4) (L' := [(1, vi 4), (2, vi 17), (0, rf X 15)]) (D_Text_init 48 rfl) rfl (by decide +kernel) (by decide) rfl ?_
  refine j_iinc (k := 1) (x' := 18) (L' := [(2, vi 18), (1, vi 4), (0, rf X 15)]) (D_Text_init 49 rfl) rfl (by decide +kernel) (by decide) rfl ?_
  refine j_goto (tgt := 57) (D_Text_init 50 rfl) rfl ?_
  refine j_iloadn (k := 0) (D_Text_init 29 rfl) rfl rfl ?_
  refine j_ldcS (i := 0) rfl rfl (D_Text_init 30 rfl) ?_
  refine j_cKi (As := []) (c_String_length (i := 0) (by decide)) rfl lk_Text_34 mok_String_length (by decide) (by decide) rfl rfl (Nat.le_of_ble_eq_true rfl) (D_Text_init 31 rfl) (fun _ => ?_) (by decide)
  refine j_top0 (x' := 199) (by decide +kernel) ?_
  refine j_ic_ge (tgt := 101) (D_Text_init 32 rfl) rfl (wr_lit rfl) (wr_lit rfl) (fun h => absurd h (by decide)) (fun _ => ?_)
  refine j_iloadn (k := 1) (D_Text_init 33 rfl) rfl rfl ?_
  refine j_bipush (v := 36) (D_Text_init 34 rfl) rfl ?_
  refine j_ic_gt (tgt := 101) (D_Text_init 35 rfl) rfl (wr_lit rfl) (wr_lit rfl) (fun h => absurd h (by decide)) (fun _ => ?_)
  refine j_ldcS (i := 0) rfl rfl (D_Text_init 36 rfl) ?_
  refine j_iloadn (k := 0) (D_Text_init 37 rfl) rfl rfl ?_
  refine j_cKi (As := [vi 18]) (c_String_charAt (i := 0) (x := 18) (by decide) (wr_lit rfl) (by decide) (by decide)) rfl lk_Text_40 mok_String_charAt (by decide) (by decide) rfl rfl (Nat.le_of_ble_eq_true rfl) (D_Text_init 38 rfl) (fun _ => ?_) (by decide)
  refine j_top0 (x' := 115) (by decide +kernel) ?_
  refine j_bipush (v := 32) (D_Text_init 39 rfl) rfl ?_
  refine j_ic_ne (tgt := 95) (D_Text_init 40 rfl) rfl (wr_lit rfl) (wr_lit rfl) (fun _ => ?_) (fun h => absurd h (by decide))
  refine j_iinc (k := 0) (x' := 19) (L' := [(2, vi 19), (1, vi 4), (0, rf X 15)]) (D_Text_init 49 rfl) rfl (by decide +kernel) (by decide) rfl ?_
  refine j_goto (tgt := 57) (D_Text_init 50 rfl) rfl ?_
  refine j_iloadn (k := 0) (D_Text_init 29 rfl) rfl rfl ?_
  refine j_ldcS (i := 0) rfl rfl (D_Text_init 30 rfl) ?_
  refine j_cKi (As := []) (c_String_length (i := 0) (by decide)) rfl lk_Text_34 mok_String_length (by decide) (by decide) rfl rfl (Nat.le_of_ble_eq_true rfl) (D_Text_init 31 rfl) (fun _ => ?_) (by decide)
  refine j_top0 (x' := 199) (by decide +kernel) ?_
  refine j_ic_ge (tgt := 101) (D_Text_init 32 rfl) rfl (wr_lit rfl) (wr_lit rfl) (fun h => absurd h (by decide)) (fun _ => ?_)
  refine j_iloadn (k := 1) (D_Text_init 33 rfl) rfl rfl ?_
  refine j_bipush (v := 36) (D_Text_init 34 rfl) rfl ?_
  refine j_ic_gt (tgt := 101) (D_Text_init 35 rfl) rfl (wr_lit rfl) (wr_lit rfl) (fun h => absurd h (by decide)) (fun _ => ?_)
  refine j_ldcS (i := 0) rfl rfl (D_Text_init 36 rfl) ?_
  refine j_iloadn (k := 0) (D_Text_init 37 rfl) rfl rfl ?_
  refine j_cKi (As := [vi 19]) (c_String_charAt (i := 0) (x := 19) (by decide) (wr_lit rfl) (by decide) (by decide)) rfl lk_Text_40 mok_String_charAt (by decide) (by decide) rfl rfl (Nat.le_of_ble_eq_true rfl) (D_Text_init 38 rfl) (fun _ => ?_) (by decide)
  refine j_top0 (x' := 101) (by decide +kernel) ?_
  refine j_bipush (v := 32) (D_Text_init 39 rfl) rfl ?_
  refine j_ic_ne (tgt := 95) (D_Text_init 40 rfl) rfl (wr_lit rfl) (wr_lit rfl) (fun _ => ?_) (fun h => absurd h (by decide))
  refine j_iinc (k := 0) (x' := 20) (L' := [(2, vi 20), (1, vi 4), (0, rf X 15)]) (D_Text_init 49 rfl) rfl (by decide +kernel) (by decide) rfl ?_
  refine j_goto (tgt := 57) (D_Text_init 50 rfl) rfl ?_
  refine j_iloadn (k := 0) (D_Text_init 29 rfl) rfl rfl ?_
  refine j_ldcS (i := 0) rfl rfl (D_Text_init 30 rfl) ?_
  refine j_cKi (As := []) (c_String_length (i := 0) (by decide)) rfl lk_Text_34 mok_String_length (by decide) (by decide) rfl rfl (Nat.le_of_ble_eq_true rfl) (D_Text_init 31 rfl) (fun _ => ?_) (by decide)
  refine j_top0 (x' := 199) (by decide +kernel) ?_
  refine j_ic_ge (tgt := 101) (D_Text_init 32 rfl) rfl (wr_lit rfl) (wr_lit rfl) (fun h => absurd h (by decide)) (fun _ => ?_)
  refine j_iloadn (k := 1) (D_Text_init 33 rfl) rfl rfl ?_
  refine j_bipush (v := 36) (D_Text_init 34 rfl) rfl ?_
  refine j_ic_gt (tgt := 101) (D_Text_init 35 rfl) rfl (wr_lit rfl) (wr_lit rfl) (fun h => absurd h (by decide)) (fun _ => ?_)
  refine j_ldcS (i := 0) rfl rfl (D_Text_init 36 rfl) ?_
  refine j_iloadn (k := 0) (D_Text_init 37 rfl) rfl rfl ?_
  refine j_cKi (As := [vi 20]) (c_String_charAt (i := 0) (x := 20) (by decide) (wr_lit rfl) (by decide) (by decide)) rfl lk_Text_40 mok_String_charAt (by decide) (by decide) rfl rfl (Nat.le_of_ble_eq_true rfl) (D_Text_init 38 rfl) (fun _ => ?_) (by decide)
  refine j_top0 (x' := 114) (by decide +kernel) ?_
  refine j_bipush (v := 32) (D_Text_init 39 rfl) rfl ?_
  refine j_ic_ne (tgt := 95) (D_Text_init 40 rfl) rfl (wr_lit rfl) (wr_lit rfl) (fun _ => ?_) (fun h => absurd h (by decide))
  refine j_iinc (k := 0) (x' := 21) (L' := [(2, vi 21), (1, vi 4), (0, rf X 15)]) (D_Text_init 49 rfl) rfl (by decide +kernel) (by decide) rfl ?_
  refine j_goto (tgt := 57) (D_Text_init 50 rfl) rfl ?_
  refine j_iloadn (k := 0) (D_Text_init 29 rfl) rfl rfl ?_
  refine j_ldcS (i := 0) rfl rfl (D_Text_init 30 rfl) ?_
  refine j_cKi (As := []) (c_String_length (i := 0) (by decide)) rfl lk_Text_34 mok_String_length (by decide) (by decide) rfl rfl (Nat.le_of_ble_eq_true rfl) (D_Text_init 31 rfl) (fun _ => ?_) (by decide)
  refine j_top0 (x' := 199) (by decide +kernel) ?_
  refine j_ic_ge (tgt := 101) (D_Text_init 32 rfl) rfl (wr_lit rfl) (wr_lit rfl) (fun h => absurd h (by decide)) (fun _ => ?_)
  refine j_iloadn (k := 1) (D_Text_init 33 rfl) rfl rfl ?_
  refine j_bipush (v := 36) (D_Text_init 34 rfl) rfl ?_
  refine j_ic_gt (tgt := 101) (D_Text_init 35 rfl) rfl (wr_lit rfl) (wr_lit rfl) (fun h => absurd h (by decide)) (fun _ => ?_)
  refine j_ldcS (i := 0) rfl rfl (D_Text_init 36 rfl) ?_
  refine j_iloadn (k := 0) (D_Text_init 37 rfl) rfl rfl ?_
  refine j_cKi (As := [vi 21]) (c_String_charAt (i := 0) (x := 21) (by decide) (wr_lit rfl) (by decide) (by decide)) rfl lk_Text_40 mok_String_charAt (by decide) (by decide) rfl rfl (Nat.le_of_ble_eq_true rfl) (D_Text_init 38 rfl) (fun _ => ?_) (by decide)
  refine j_top0 (x' := 118) (by decide +kernel) ?_
  refine j_bipush (v := 32) (D_Text_init 39 rfl) rfl ?_
  refine j_ic_ne (tgt := 95) (D_Text_init 40 rfl) rfl (wr_lit rfl) (wr_lit rfl) (fun _ => ?_) (fun h => absurd h (by decide))
  refine j_iinc (k := 0) (x' := 22) (L' := [(2, vi 22), (1, vi 4), (0, rf X 15)]) (D_Text_init 49 rfl) rfl (by decide +kernel) (by decide) rfl ?_
  refine j_goto (tgt := 57) (D_Text_init 50 rfl) rfl ?_
  refine j_iloadn (k := 0) (D_Text_init 29 rfl) rfl rfl ?_
  refine j_ldcS (i := 0) rfl rfl (D_Text_init 30 rfl) ?_
  refine j_cKi (As := []) (c_String_length (i := 0) (by decide)) rfl lk_Text_34 mok_String_length (by decide) (by decide) rfl rfl (Nat.le_of_ble_eq_true rfl) (D_Text_init 31 rfl) (fun _ => ?_) (by decide)
  refine j_top0 (x' := 199) (by decide +kernel) ?_
  refine j_ic_ge (tgt := 101) (D_Text_init 32 rfl) rfl (wr_lit rfl) (wr_lit rfl) (fun h => absurd h (by decide)) (fun _ => ?_)
  refine j_iloadn (k := 1) (D_Text_init 33 rfl) rfl rfl ?_
  refine j_bipush (v := 36) (D_Text_init 34 rfl) rfl ?_
  refine j_ic_gt (tgt := 101) (D_Text_init 35 rfl) rfl (wr_lit rfl) (wr_lit rfl) (fun h => absurd h (by decide)) (fun _ => ?_)
  refine j_ldcS (i := 0) rfl rfl (D_Text_init 36 rfl) ?_
  refine j_iloadn (k := 0) (D_Text_init 37 rfl) rfl rfl ?_
  refine j_cKi (As := [vi 22]) (c_String_charAt (i := 0) (x := 22) (by decide) (wr_lit rfl) (by decide) (by decide)) rfl lk_Text_40 mok_String_charAt (by decide) (by decide) rfl rfl (Nat.le_of_ble_eq_true rfl) (D_Text_init 38 rfl) (fun _ => ?_) (by decide)
  refine j_top0 (x' := 105) (by decide +kernel) ?_
  refine j_bipush (v := 32) (D_Text_init 39 rfl) rfl ?_
  refine j_ic_ne (tgt := 95) (D_Text_init 40 rfl) rfl (wr_lit rfl) (wr_lit rfl) (fun _ => ?_) (fun h => absurd h (by decide))
  refine j_iinc (k := 0) (x' := 23) (L' := [(2, vi 23), (1, vi 4), (0, rf X 15)]) (D_Text_init 49 rfl) rfl (by decide +kernel) (by decide) rfl ?_
  refine j_goto (tgt := 57) (D_Text_init 50 rfl) rfl ?_
  refine j_iloadn (k := 0) (D_Text_init 29 rfl) rfl rfl ?_
  refine j_ldcS (i := 0) rfl rfl (D_Text_init 30 rfl) ?_
  refine j_cKi (As := []) (c_String_length (i := 0) (by decide)) rfl lk_Text_34 mok_String_length (by decide) (by decide) rfl rfl (Nat.le_of_ble_eq_true rfl) (D_Text_init 31 rfl) (fun _ => ?_) (by decide)
  refine j_top0 (x' := 199) (by decide +kernel) ?_
  refine j_ic_ge (tgt := 101) (D_Text_init 32 rfl) rfl (wr_lit rfl) (wr_lit rfl) (fun h => absurd h (by decide)) (fun _ => ?_)
  refine j_iloadn (k := 1) (D_Text_init 33 rfl) rfl rfl ?_
  refine j_bipush (v := 36) (D_Text_init 34 rfl) rfl ?_
  refine j_ic_gt (tgt := 101) (D_Text_init 35 rfl) rfl (wr_lit rfl) (wr_lit rfl) (fun h => absurd h (by decide)) (fun _ => ?_)
  refine j_ldcS (i := 0) rfl rfl (D_Text_init 36 rfl) ?_
  refine j_iloadn (k := 0) (D_Text_init 37 rfl) rfl rfl ?_
  refine j_cKi (As := [vi 23]) (c_String_charAt (i := 0) (x := 23) (by decide) (wr_lit rfl) (by decide) (by decide)) rfl lk_Text_40 mok_String_charAt (by decide) (by decide) rfl rfl (Nat.le_of_ble_eq_true rfl) (D_Text_init 38 rfl) (fun _ => ?_) (by decide)
  refine j_top0 (x' := 99) (by decide +kernel) ?_
  refine j_bipush (v := 32) (D_Text_init 39 rfl) rfl ?_
  refine j_ic_ne (tgt := 95) (D_Text_init 40 rfl) rfl (wr_lit rfl) (wr_lit rfl) (fun _ => ?_) (fun h => absurd h (by decide))
  refine j_iinc (k := 0) (x' := 24) (L' := [(2, vi 24), (1, vi 4), (0, rf X 15)]) (D_Text_init 49 rfl) rfl (by decide +kernel) (by decide) rfl ?_
  refine j_goto (tgt := 57) (D_Text_init 50 rfl) rfl ?_
  refine j_iloadn (k := 0) (D_Text_init 29 rfl) rfl rfl ?_
  refine j_ldcS (i := 0) rfl rfl (D_Text_init 30 rfl) ?_
  refine j_cKi (As := []) (c_String_length (i := 0) (by decide)) rfl lk_Text_34 mok_String_length (by decide) (by decide) rfl rfl (Nat.le_of_ble_eq_true rfl) (D_Text_init 31 rfl) (fun _ => ?_) (by decide)
  refine j_top0 (x' := 199) (by decide +kernel) ?_
  refine j_ic_ge (tgt := 101) (D_Text_init 32 rfl) rfl (wr_lit rfl) (wr_lit rfl) (fun h => absurd h (by decide)) (fun _ => ?_)
  refine j_iloadn (k := 1) (D_Text_init 33 rfl) rfl rfl ?_
  refine j_bipush (v := 36) (D_Text_init 34 rfl) rfl ?_
  refine j_ic_gt (tgt := 101) (D_Text_init 35 rfl) rfl (wr_lit rfl) (wr_lit rfl) (fun h => absurd h (by decide)) (fun _ => ?_)
  refine j_ldcS (i := 0) rfl rfl (D_Text_init 36 rfl) ?_
  refine j_iloadn (k := 0) (D_Text_init 37 rfl) rfl rfl ?_
  refine j_cKi (As := [vi 24]) (c_String_charAt (i := 0) (x := 24) (by decide) (wr_lit rfl) (by decide) (by decide)) rfl lk_Text_40 mok_String_charAt (by decide) (by decide) rfl rfl (Nat.le_of_ble_eq_true rfl) (D_Text_init 38 rfl) (fun _ => ?_) (by decide)
  refine j_top0 (x' := 101) (by decide +kernel) ?_
  refine j_bipush (v := 32) (D_Text_init 39 rfl) rfl ?_
  refine j_ic_ne (tgt := 95) (D_Text_init 40 rfl) rfl (wr_lit rfl) (wr_lit rfl) (fun _ => ?_) (fun h => absurd h (by decide))
  refine j_iinc (k := 0) (x' := 25) (L' := [(2, vi 25), (1, vi 4), (0, rf X 15)]) (D_Text_init 49 rfl) rfl (by decide +kernel) (by decide) rfl ?_
  refine j_goto (tgt := 57) (D_Text_init 50 rfl) rfl ?_
  refine j_iloadn (k := 0) (D_Text_init 29 rfl) rfl rfl ?_
  refine j_ldcS (i := 0) rfl rfl (D_Text_init 30 rfl) ?_
  refine j_cKi (As := []) (c_String_length (i := 0) (by decide)) rfl lk_Text_34 mok_String_length (by decide) (by decide) rfl rfl (Nat.le_of_ble_eq_true rfl) (D_Text_init 31 rfl) (fun _ => ?_) (by decide)
  refine j_top0 (x' := 199) (by decide +kernel) ?_
  refine j_ic_ge (tgt := 101) (D_Text_init 32 rfl) rfl (wr_lit rfl) (wr_lit rfl) (fun h => absurd h (by decide)) (fun _ => ?_)
  refine j_iloadn (k := 1) (D_Text_init 33 rfl) rfl rfl ?_
  refine j_bipush (v := 36) (D_Text_init 34 rfl) rfl ?_
  refine j_ic_gt (tgt := 101) (D_Text_init 35 rfl) rfl (wr_lit rfl) (wr_lit rfl) (fun h => absurd h (by decide)) (fun _ => ?_)
  refine j_ldcS (i := 0) rfl rfl (D_Text_init 36 rfl) ?_
  refine j_iloadn (k := 0) (D_Text_init 37 rfl) rfl rfl ?_
  refine j_cKi (As := [vi 25]) (c_String_charAt (i := 0) (x := 25) (by decide) (wr_lit rfl) (by decide) (by decide)) rfl lk_Text_40 mok_String_charAt (by decide) (by decide) rfl rfl (Nat.le_of_ble_eq_true rfl) (D_Text_init 38 rfl) (fun _ => ?_) (by decide)
  refine j_top0 (x' := 32) (by decide +kernel) ?_
  refine j_bipush (v := 32) (D_Text_init 39 rfl) rfl ?_
  refine j_ic_ne (tgt := 95) (D_Text_init 40 rfl) rfl (wr_lit rfl) (wr_lit rfl) (fun h => absurd rfl h) (fun _ => ?_)
  refine j_aloadn (k := 2) (D_Text_init 41 rfl) rfl rfl ?_
  refine j_getR (t := 17) rfl fa_Text_15 kd_15 (by decide) (by decide) rfl (fun _ => by decide +kernel) (by decide) (D_Text_init 42 rfl) ?_
  refine j_iloadn (k := 1) (D_Text_init 43 rfl) rfl rfl ?_
  refine j_iloadn (k := 0) (D_Text_init 44 rfl) rfl rfl ?_
  refine j_iconst (v := 1) (D_Text_init 45 rfl) rfl ?_
  refine j_iadd (D_Text_init 46 rfl) ?_
  refine j_top0 (x' := 26) (by decide +kernel) ?_
  refine j_iast (NI := 37) (D_Text_init 47 rfl) kd_17 (by decide) (wr_lit rfl) rfl (by decide) (by decide) ?_
  refine j_iinc (k := 1) (x' := 5) (L' := [(1, vi 5), (2, vi 25), (0, rf X 15)]) (D_Text_init 48 rfl) rfl (by decide +kernel) (by decide) rfl ?_
  refine j_iinc (k := 1) (x' := 26) (L' := [(2, vi 26), (1, vi 5), (0, rf X 15)]) (D_Text_init 49 rfl) rfl (by decide +kernel) (by decide) rfl ?_
  refine j_goto (tgt := 57) (D_Text_init 50 rfl) rfl ?_
  refine j_iloadn (k := 0) (D_Text_init 29 rfl) rfl rfl ?_
  refine j_ldcS (i := 0) rfl rfl (D_Text_init 30 rfl) ?_
  refine j_cKi (As := []) (c_String_length (i := 0) (by decide)) rfl lk_Text_34 mok_String_length (by decide) (by decide) rfl rfl (Nat.le_of_ble_eq_true rfl) (D_Text_init 31 rfl) (fun _ => ?_) (by decide)
  refine j_top0 (x' := 199) (by decide +kernel) ?_
  refine j_ic_ge (tgt := 101) (D_Text_init 32 rfl) rfl (wr_lit rfl) (wr_lit rfl) (fun h => absurd h (by decide)) (fun _ => ?_)
  refine j_iloadn (k := 1) (D_Text_init 33 rfl) rfl rfl ?_
  refine j_bipush (v := 36) (D_Text_init 34 rfl) rfl ?_
  refine j_ic_gt (tgt := 101) (D_Text_init 35 rfl) rfl (wr_lit rfl) (wr_lit rfl) (fun h => absurd h (by decide)) (fun _ => ?_)
  refine j_ldcS (i := 0) rfl rfl (D_Text_init 36 rfl) ?_
  refine j_iloadn (k := 0) (D_Text_init 37 rfl) rfl rfl ?_
  refine j_cKi (As := [vi 26]) (c_String_charAt (i := 0) (x := 26) (by decide) (wr_lit rfl) (by decide) (by decide)) rfl lk_Text_40 mok_String_charAt (by decide) (by decide) rfl rfl (Nat.le_of_ble_eq_true rfl) (D_Text_init 38 rfl) (fun _ => ?_) (by decide)
  refine j_top0 (x' := 97) (by decide +kernel) ?_
  refine j_bipush (v := 32) (D_Text_init 39 rfl) rfl ?_
  refine j_ic_ne (tgt := 95) (D_Text_init 40 rfl) rfl (wr_lit rfl) (wr_lit rfl) (fun _ => ?_) (fun h => absurd h (by decide))
  refine j_iinc (k := 0) (x' := 27) (L' := [(2, vi 27), (1, vi 5), (0, rf X 15)]) (D_Text_init 49 rfl) rfl (by decide +kernel) (by decide) rfl ?_
  refine j_goto (tgt := 57) (D_Text_init 50 rfl) rfl ?_
  refine j_iloadn (k := 0) (D_Text_init 29 rfl) rfl rfl ?_
  refine j_ldcS (i := 0) rfl rfl (D_Text_init 30 rfl) ?_
  refine j_cKi (As := []) (c_String_length (i := 0) (by decide)) rfl lk_Text_34 mok_String_length (by decide) (by decide) rfl rfl (Nat.le_of_ble_eq_true rfl) (D_Text_init 31 rfl) (fun _ => ?_) (by decide)
  refine j_top0 (x' := 199) (by decide +kernel) ?_
  refine j_ic_ge (tgt := 101) (D_Text_init 32 rfl) rfl (wr_lit rfl) (wr_lit rfl) (fun h => absurd h (by decide)) (fun _ => ?_)
  refine j_iloadn (k := 1) (D_Text_init 33 rfl) rfl rfl ?_
  refine j_bipush (v := 36) (D_Text_init 34 rfl) rfl ?_
  refine j_ic_gt (tgt := 101) (D_Text_init 35 rfl) rfl (wr_lit rfl) (wr_lit rfl) (fun h => absurd h (by decide)) (fun _ => ?_)
  refine j_ldcS (i := 0) rfl rfl (D_Text_init 36 rfl) ?_
  refine j_iloadn (k := 0) (D_Text_init 37 rfl) rfl rfl ?_
  refine j_cKi (As := [vi 27]) (c_String_charAt (i := 0) (x := 27) (by decide) (wr_lit rfl) (by decide) (by decide)) rfl lk_Text_40 mok_String_charAt (by decide) (by decide) rfl rfl (Nat.le_of_ble_eq_true rfl) (D_Text_init 38 rfl) (fun _ => ?_) (by decide)
  refine j_top0 (x' := 103) (by decide +kernel) ?_
  refine j_bipush (v := 32) (D_Text_init 39 rfl) rfl ?_
  refine j_ic_ne (tgt := 95) (D_Text_init 40 rfl) rfl (wr_lit rfl) (wr_lit rfl) (fun _ => ?_) (fun h => absurd h (by decide))
  refine j_iinc (k := 0) (x' := 28) (L' := [(2, vi 28), (1, vi 5), (0, rf X 15)]) (D_Text_init 49 rfl) rfl (by decide +kernel) (by decide) rfl ?_
  refine j_goto (tgt := 57) (D_Text_init 50 rfl) rfl ?_
  refine j_iloadn (k := 0) (D_Text_init 29 rfl) rfl rfl ?_
  refine j_ldcS (i := 0) rfl rfl (D_Text_init 30 rfl) ?_
  refine j_cKi (As := []) (c_String_length (i := 0) (by decide)) rfl lk_Text_34 mok_String_length (by decide) (by decide) rfl rfl (Nat.le_of_ble_eq_true rfl) (D_Text_init 31 rfl) (fun _ => ?_) (by decide)
  refine j_top0 (x' := 199) (by decide +kernel) ?_
  refine j_ic_ge (tgt := 101) (D_Text_init 32 rfl) rfl (wr_lit rfl) (wr_lit rfl) (fun h => absurd h (by decide)) (fun _ => ?_)
  refine j_iloadn (k := 1) (D_Text_init 33 rfl) rfl rfl ?_
  refine j_bipush (v := 36) (D_Text_init 34 rfl) rfl ?_
  refine j_ic_gt (tgt := 101) (D_Text_init 35 rfl) rfl (wr_lit rfl) (wr_lit rfl) (fun h => absurd h (by decide)) (fun _ => ?_)
  refine j_ldcS (i := 0) rfl rfl (D_Text_init 36 rfl) ?_
  refine j_iloadn (k := 0) (D_Text_init 37 rfl) rfl rfl ?_
  refine j_cKi (As := [vi 28]) (c_String_charAt (i := 0) (x := 28) (by decide) (wr_lit rfl) (by decide) (by decide)) rfl lk_Text_40 mok_String_charAt (by decide) (by decide) rfl rfl (Nat.le_of_ble_eq_true rfl) (D_Text_init 38 rfl) (fun _ => ?_) (by decide)
  refine j_top0 (x' := 101) (by decide +kernel) ?_
  refine j_bipush (v := 32) (D_Text_init 39 rfl) rfl ?_
  refine j_ic_ne (tgt := 95) (D_Text_init 40 rfl) rfl (wr_lit rfl) (wr_lit rfl) (fun _ => ?_) (fun h => absurd h (by decide))
  refine j_iinc (k := 0) (x' := 29) (L' := [(2, vi 29), (1, vi 5), (0, rf X 15)]) (D_Text_init 49 rfl) rfl (by decide +kernel) (by decide) rfl ?_
  refine j_goto (tgt := 57) (D_Text_init 50 rfl) rfl ?_
  refine j_iloadn (k := 0) (D_Text_init 29 rfl) rfl rfl ?_
  refine j_ldcS (i := 0) rfl rfl (D_Text_init 30 rfl) ?_
  refine j_cKi (As := []) (c_String_length (i := 0) (by decide)) rfl lk_Text_34 mok_String_length (by decide) (by decide) rfl rfl (Nat.le_of_ble_eq_true rfl) (D_Text_init 31 rfl) (fun _ => ?_) (by decide)
  refine j_top0 (x' := 199) (by decide +kernel) ?_
  refine j_ic_ge (tgt := 101) (D_Text_init 32 rfl) rfl (wr_lit rfl) (wr_lit rfl) (fun h => absurd h (by decide)) (fun _ => ?_)
  refine j_iloadn (k := 1) (D_Text_init 33 rfl) rfl rfl ?_
  refine j_bipush (v := 36) (D_Text_init 34 rfl) rfl ?_
  refine j_ic_gt (tgt := 101) (D_Text_init 35 rfl) rfl (wr_lit rfl) (wr_lit rfl) (fun h => absurd h (by decide)) (fun _ => ?_)
  refine j_ldcS (i := 0) rfl rfl (D_Text_init 36 rfl) ?_
  refine j_iloadn (k := 0) (D_Text_init 37 rfl) rfl rfl ?_
  refine j_cKi (As := [vi 29]) (c_String_charAt (i := 0) (x := 29) (by decide) (wr_lit rfl) (by decide) (by decide)) rfl lk_Text_40 mok_String_charAt (by decide) (by decide) rfl rfl (Nat.le_of_ble_eq_true rfl) (D_Text_init 38 rfl) (fun _ => ?_) (by decide)
  refine j_top0 (x' := 32) (by decide +kernel) ?_
  refine j_bipush (v := 32) (D_Text_init 39 rfl) rfl ?_
  refine j_ic_ne (tgt := 95) (D_Text_init 40 rfl) rfl (wr_lit rfl) (wr_lit rfl) (fun h => absurd rfl h) (fun _ => ?_)
  refine j_aloadn (k := 2) (D_Text_init 41 rfl) rfl rfl ?_
  refine j_getR (t := 17) rfl fa_Text_15 kd_15 (by decide) (by decide) rfl (fun _ => by decide +kernel) (by decide) (D_Text_init 42 rfl) ?_
  refine j_iloadn (k := 1) (D_Text_init 43 rfl) rfl rfl ?_
  refine j_iloadn (k := 0) (D_Text_init 44 rfl) rfl rfl ?_
  refine j_iconst (v := 1) (D_Text_init 45 rfl) rfl ?_
  refine j_iadd (D_Text_init 46 rfl) ?_
  refine j_top0 (x' := 30) (by decide +kernel) ?_
  refine j_iast (NI := 37) (D_Text_init 47 rfl) kd_17 (by decide) (wr_lit rfl) rfl (by decide) (by decide) ?_
  refine j_iinc (k := 1) (x' := 6) (L' := [(1, vi 6), (2, vi 29), (0, rf X 15)]) (D_Text_init 48 rfl) rfl (by decide +kernel) (by decide) rfl ?_
  refine j_iinc (k := 1) (x' := 30) (L' := [(2, vi 30), (1, vi 6), (0, rf X 15)]) (D_Text_init 49 rfl) rfl (by decide +kernel) (by decide) rfl ?_
  refine j_goto (tgt := 57) (D_Text_init 50 rfl) rfl ?_
  refine j_iloadn (k := 0) (D_Text_init 29 rfl) rfl rfl ?_
  refine j_ldcS (i := 0) rfl rfl (D_Text_init 30 rfl) ?_
  refine j_cKi (As := []) (c_String_length (i := 0) (by decide)) rfl lk_Text_34 mok_String_length (by decide) (by decide) rfl rfl (Nat.le_of_ble_eq_true rfl) (D_Text_init 31 rfl) (fun _ => ?_) (by decide)
  refine j_top0 (x' := 199) (by decide +kernel) ?_
  refine j_ic_ge (tgt := 101) (D_Text_init 32 rfl) rfl (wr_lit rfl) (wr_lit rfl) (fun h => absurd h (by decide)) (fun _ => ?_)
  refine j_iloadn (k := 1) (D_Text_init 33 rfl) rfl rfl ?_
  refine j_bipush (v := 36) (D_Text_init 34 rfl) rfl ?_
  refine j_ic_gt (tgt := 101) (D_Text_init 35 rfl) rfl (wr_lit rfl) (wr_lit rfl) (fun h => absurd h (by decide)) (fun _ => ?_)
  refine j_ldcS (i := 0) rfl rfl (D_Text_init 36 rfl) ?_
  refine j_iloadn (k := 0) (D_Text_init 37 rfl) rfl rfl ?_
  refine j_cKi (As := [vi 30]) (c_String_charAt (i := 0) (x := 30) (by decide) (wr_lit rfl) (by decide) (by decide)) rfl lk_Text_40 mok_String_charAt (by decide) (by decide) rfl rfl (Nat.le_of_ble_eq_true rfl) (D_Text_init 38 rfl) (fun _ => ?_) (by decide)
  refine j_top0 (x' := 104) (by decide +kernel) ?_
  refine j_bipush (v := 32) (D_Text_init 39 rfl) rfl ?_
  refine j_ic_ne (tgt := 95) (D_Text_init 40 rfl) rfl (wr_lit rfl) (wr_lit rfl) (fun _ => ?_) (fun h => absurd h (by decide))
  refine j_iinc (k := 0) (x' := 31) (L' := [(2, vi 31), (1, vi 6), (0, rf X 15)]) (D_Text_init 49 rfl) rfl (by decide +kernel) (by decide) rfl ?_
  refine j_goto (tgt := 57) (D_Text_init 50 rfl) rfl ?_
  refine j_iloadn (k := 0) (D_Text_init 29 rfl) rfl rfl ?_
  refine j_ldcS (i := 0) rfl rfl (D_Text_init 30 rfl) ?_
  refine j_cKi (As := []) (c_String_length (i := 0) (by decide)) rfl lk_Text_34 mok_String_length (by decide) (by decide) rfl rfl (Nat.le_of_ble_eq_true rfl) (D_Text_init 31 rfl) (fun _ => ?_) (by decide)
  refine j_top0 (x' := 199) (by decide +kernel) ?_
  refine j_ic_ge (tgt := 101) (D_Text_init 32 rfl) rfl (wr_lit rfl) (wr_lit rfl) (fun h => absurd h (by decide)) (fun _ => ?_)
  refine j_iloadn (k := 1) (D_Text_init 33 rfl) rfl rfl ?_
  refine j_bipush (v := 36) (D_Text_init 34 rfl) rfl ?_
  refine j_ic_gt (tgt := 101) (D_Text_init 35 rfl) rfl (wr_lit rfl) (wr_lit rfl) (fun h => absurd h (by decide)) (fun _ => ?_)
  refine j_ldcS (i := 0) rfl rfl (D_Text_init 36 rfl) ?_
  refine j_iloadn (k := 0) (D_Text_init 37 rfl) rfl rfl ?_
  refine j_cKi (As := [vi 31]) (c_String_charAt (i := 0) (x := 31) (by decide) (wr_lit rfl) (by decide) (by decide)) rfl lk_Text_40 mok_String_charAt (by decide) (by decide) rfl rfl (Nat.le_of_ble_eq_true rfl) (D_Text_init 38 rfl) (fun _ => ?_) (by decide)
  refine j_top0 (x' := 101) (by decide +kernel) ?_
  refine j_bipush (v := 32) (D_Text_init 39 rfl) rfl ?_
  refine j_ic_ne (tgt := 95) (D_Text_init 40 rfl) rfl (wr_lit rfl) (wr_lit rfl) (fun _ => ?_) (fun h => absurd h (by decide))
  refine j_iinc (k := 0) (x' := 32) (L' := [(2, vi 32), (1, vi 6), (0, rf X 15)]) (D_Text_init 49 rfl) rfl (by decide +kernel) (by decide) rfl ?_
  refine j_goto (tgt := 57) (D_Text_init 50 rfl) rfl ?_
  refine j_iloadn (k := 0) (D_Text_init 29 rfl) rfl rfl ?_
  refine j_ldcS (i := 0) rfl rfl (D_Text_init 30 rfl) ?_
  refine j_cKi (As := []) (c_String_length (i := 0) (by decide)) rfl lk_Text_34 mok_String_length (by decide) (by decide) rfl rfl (Nat.le_of_ble_eq_true rfl) (D_Text_init 31 rfl) (fun _ => ?_) (by decide)
  refine j_top0 (x' := 199) (by decide +kernel) ?_
  refine j_ic_ge (tgt := 101) (D_Text_init 32 rfl) rfl (wr_lit rfl) (wr_lit rfl) (fun h => absurd h (by decide)) (fun _ => ?_)
  refine j_iloadn (k := 1) (D_Text_init 33 rfl) rfl rfl ?_
  refine j_bipush (v := 36) (D_Text_init 34 rfl) rfl ?_
  refine j_ic_gt (tgt := 101) (D_Text_init 35 rfl) rfl (wr_lit rfl) (wr_lit rfl) (fun h => absurd h (by decide)) (fun _ => ?_)
  refine j_ldcS (i := 0) rfl rfl (D_Text_init 36 rfl) ?_
  refine j_iloadn (k := 0) (D_Text_init 37 rfl) rfl rfl ?_
  refine j_cKi (As := [vi 32]) (c_String_charAt (i := 0) (x := 32) (by decide) (wr_lit rfl) (by decide) (by decide)) rfl lk_Text_40 mok_String_charAt (by decide) (by decide) rfl rfl (Nat.le_of_ble_eq_true rfl) (D_Text_init 38 rfl) (fun _ => ?_) (by decide)
  refine j_top0 (x' := 105) (by decide +kernel) ?_
  refine j_bipush (v := 32) (D_Text_init 39 rfl) rfl ?_
  refine j_ic_ne (tgt := 95) (D_Text_init 40 rfl) rfl (wr_lit rfl) (wr_lit rfl) (fun _ => ?_) (fun h => absurd h (by decide))
  refine j_iinc (k := 0) (x' := 33) (L' := [(2, vi 33), (1, vi 6), (0, rf X 15)]) (D_Text_init 49 rfl) rfl (by decide +kernel) (by decide) rfl ?_
  refine j_goto (tgt := 57) (D_Text_init 50 rfl) rfl ?_
  refine j_iloadn (k := 0) (D_Text_init 29 rfl) rfl rfl ?_
  refine j_ldcS (i := 0) rfl rfl (D_Text_init 30 rfl) ?_
  refine j_cKi (As := []) (c_String_length (i := 0) (by decide)) rfl lk_Text_34 mok_String_length (by decide) (by decide) rfl rfl (Nat.le_of_ble_eq_true rfl) (D_Text_init 31 rfl) (fun _ => ?_) (by decide)
  refine j_top0 (x' := 199) (by decide +kernel) ?_
  refine j_ic_ge (tgt := 101) (D_Text_init 32 rfl) rfl (wr_lit rfl) (wr_lit rfl) (fun h => absurd h (by decide)) (fun _ => ?_)
  refine j_iloadn (k := 1) (D_Text_init 33 rfl) rfl rfl ?_
  refine j_bipush (v := 36) (D_Text_init 34 rfl) rfl ?_
  refine j_ic_gt (tgt := 101) (D_Text_init 35 rfl) rfl (wr_lit rfl) (wr_lit rfl) (fun h => absurd h (by decide)) (fun _ => ?_)
  refine j_ldcS (i := 0) rfl rfl (D_Text_init 36 rfl) ?_
  refine j_iloadn (k := 0) (D_Text_init 37 rfl) rfl rfl ?_
  refine j_cKi (As := [vi 33]) (c_String_charAt (i := 0) (x := 33) (by decide) (wr_lit rfl) (by decide) (by decide)) rfl lk_Text_40 mok_String_charAt (by decide) (by decide) rfl rfl (Nat.le_of_ble_eq_true rfl) (D_Text_init 38 rfl) (fun _ => ?_) (by decide)
  refine j_top0 (x' := 114) (by decide +kernel) ?_
  refine j_bipush (v := 32) (D_Text_init 39 rfl) rfl ?_
  refine j_ic_ne (tgt := 95) (D_Text_init 40 rfl) rfl (wr_lit rfl) (wr_lit rfl) (fun _ => ?_) (fun h => absurd h (by decide))
  refine j_iinc (k := 0) (x' := 34) (L' := [(2, vi 34), (1, vi 6), (0, rf X 15)]) (D_Text_init 49 rfl) rfl (by decide +kernel) (by decide) rfl ?_
  refine j_goto (tgt := 57) (D_Text_init 50 rfl) rfl ?_
  refine j_iloadn (k := 0) (D_Text_init 29 rfl) rfl rfl ?_
  refine j_ldcS (i := 0) rfl rfl (D_Text_init 30 rfl) ?_
  refine j_cKi (As := []) (c_String_length (i := 0) (by decide)) rfl lk_Text_34 mok_String_length (by decide) (by decide) rfl rfl (Nat.le_of_ble_eq_true rfl) (D_Text_init 31 rfl) (fun _ => ?_) (by decide)
  refine j_top0 (x' := 199) (by decide +kernel) ?_
  refine j_ic_ge (tgt := 101) (D_Text_init 32 rfl) rfl (wr_lit rfl) (wr_lit rfl) (fun h => absurd h (by decide)) (fun _ => ?_)
  refine j_iloadn (k := 1) (D_Text_init 33 rfl) rfl rfl ?_
  refine j_bipush (v := 36) (D_Text_init 34 rfl) rfl ?_
  refine j_ic_gt (tgt := 101) (D_Text_init 35 rfl) rfl (wr_lit rfl) (wr_lit rfl) (fun h => absurd h (by decide)) (fun _ => ?_)
  refine j_ldcS (i := 0) rfl rfl (D_Text_init 36 rfl) ?_
  refine j_iloadn (k := 0) (D_Text_init 37 rfl) rfl rfl ?_
  refine j_cKi (As := [vi 34]) (c_String_charAt (i := 0) (x := 34) (by decide) (wr_lit rfl) (by decide) (by decide)) rfl lk_Text_40 mok_String_charAt (by decide) (by decide) rfl rfl (Nat.le_of_ble_eq_true rfl) (D_Text_init 38 rfl) (fun _ => ?_) (by decide)
  refine j_top0 (x' := 115) (by decide +kernel) ?_
  refine j_bipush (v := 32) (D_Text_init 39 rfl) rfl ?_
  refine j_ic_ne (tgt := 95) (D_Text_init 40 rfl) rfl (wr_lit rfl) (wr_lit rfl) (fun _ => ?_) (fun h => absurd h (by decide))
  refine j_iinc (k := 0) (x' := 35) (L' := [(2, vi 35), (1, vi 6), (0, rf X 15)]) (D_Text_init 49 rfl) rfl (by decide +kernel) (by decide) rfl ?_
  refine j_goto (tgt := 57) (D_Text_init 50 rfl) rfl ?_
  refine j_iloadn (k := 0) (D_Text_init 29 rfl) rfl rfl ?_
  refine j_ldcS (i := 0) rfl rfl (D_Text_init 30 rfl) ?_
  refine j_cKi (As := []) (c_String_length (i := 0) (by decide)) rfl lk_Text_34 mok_String_length (by decide) (by decide) rfl rfl (Nat.le_of_ble_eq_true rfl) (D_Text_init 31 rfl) (fun _ => ?_) (by decide)
  refine j_top0 (x' := 199) (by decide +kernel) ?_
  refine j_ic_ge (tgt := 101) (D_Text_init 32 rfl) rfl (wr_lit rfl) (wr_lit rfl) (fun h => absurd h (by decide)) (fun _ => ?_)
  refine j_iloadn (k := 1) (D_Text_init 33 rfl) rfl rfl ?_
  refine j_bipush (v := 36) (D_Text_init 34 rfl) rfl ?_
  refine j_ic_gt (tgt := 101) (D_Text_init 35 rfl) rfl (wr_lit rfl) (wr_lit rfl) (fun h => absurd h (by decide)) (fun _ => ?_)
  refine j_ldcS (i := 0) rfl rfl (D_Text_init 36 rfl) ?_
  refine j_iloadn (k := 0) (D_Text_init 37 rfl) rfl rfl ?_
  refine j_cKi (As := [vi 35]) (c_String_charAt (i := 0) (x := 35) (by decide) (wr_lit rfl) (by decide) (by decide)) rfl lk_Text_40 mok_String_charAt (by decide) (by decide) rfl rfl (Nat.le_of_ble_eq_true rfl) (D_Text_init 38 rfl) (fun _ => ?_) (by decide)
  refine j_top0 (x' := 32) (by decide +kernel) ?_
  refine j_bipush (v := 32) (D_Text_init 39 rfl) rfl ?_
  refine j_ic_ne (tgt := 95) (D_Text_init 40 rfl) rfl (wr_lit rfl) (wr_lit rfl) (fun h => absurd rfl h) (fun _ => ?_)
  refine j_aloadn (k := 2) (D_Text_init 41 rfl) rfl rfl ?_
  refine j_getR (t := 17) rfl fa_Text_15 kd_15 (by decide) (by decide) rfl (fun _ => by decide +kernel) (by decide) (D_Text_init 42 rfl) ?_
  refine j_iloadn (k := 1) (D_Text_init 43 rfl) rfl rfl ?_
  refine j_iloadn (k := 0) (D_Text_init 44 rfl) rfl rfl ?_
  refine j_iconst (v := 1) (D_Text_init 45 rfl) rfl ?_
  refine j_iadd (D_Text_init 46 rfl) ?_
  refine j_top0 (x' := 36) (by decide +kernel) ?_
  refine j_iast (NI := 37) (D_Text_init 47 rfl) kd_17 (by decide) (wr_lit rfl) rfl (by decide) (by decide) ?_
  refine j_iinc (k := 1) (x' := 7) (L' := [(1, vi 7), (2, vi 35), (0, rf X 15)]) (D_Text_init 48 rfl) rfl (by decide +kernel) (by decide) rfl ?_
  refine j_iinc (k := 1) (x' := 36) (L' := [(2, vi 36), (1, vi 7), (0, rf X 15)]) (D_Text_init 49 rfl) rfl (by decide +kernel) (by decide) rfl ?_
  refine j_goto (tgt := 57) (D_Text_init 50 rfl) rfl ?_
  refine j_iloadn (k := 0) (D_Text_init 29 rfl) rfl rfl ?_
  refine j_ldcS (i := 0) rfl rfl (D_Text_init 30 rfl) ?_
  refine j_cKi (As := []) (c_String_length (i := 0) (by decide)) rfl lk_Text_34 mok_String_length (by decide) (by decide) rfl rfl (Nat.le_of_ble_eq_true rfl) (D_Text_init 31 rfl) (fun _ => ?_) (by decide)
  refine j_top0 (x' := 199) (by decide +kernel) ?_
  refine j_ic_ge (tgt := 101) (D_Text_init 32 rfl) rfl (wr_lit rfl) (wr_lit rfl) (fun h => absurd h (by decide)) (fun _ => ?_)
  refine j_iloadn (k := 1) (D_Text_init 33 rfl) rfl rfl ?_
  refine j_bipush (v := 36) (D_Text_init 34 rfl) rfl ?_
  refine j_ic_gt (tgt := 101) (D_Text_init 35 rfl) rfl (wr_lit rfl) (wr_lit rfl) (fun h => absurd h (by decide)) (fun _ => ?_)
  refine j_ldcS (i := 0) rfl rfl (D_Text_init 36 rfl) ?_
  refine j_iloadn (k := 0) (D_Text_init 37 rfl) rfl rfl ?_
  refine j_cKi (As := [vi 36]) (c_String_charAt (i := 0) (x := 36) (by decide) (wr_lit rfl) (by decide) (by decide)) rfl lk_Text_40 mok_String_charAt (by decide) (by decide) rfl rfl (Nat.le_of_ble_eq_true rfl) (D_Text_init 38 rfl) (fun _ => ?_) (by decide)
  refine j_top0 (x' := 115) (by decide +kernel) ?_
  refine j_bipush (v := 32) (D_Text_init 39 rfl) rfl ?_
  refine j_ic_ne (tgt := 95) (D_Text_init 40 rfl) rfl (wr_lit rfl) (wr_lit rfl) (fun _ => ?_) (fun h => absurd h (by decide))
  refine j_iinc (k := 0) (x' := 37) (L' := [(2, vi 37), (1, vi 7), (0, rf X 15)]) (D_Text_init 49 rfl) rfl (by decide +kernel) (by decide) rfl ?_
  refine j_goto (tgt := 57) (D_Text_init 50 rfl) rfl ?_
  refine j_iloadn (k := 0) (D_Text_init 29 rfl) rfl rfl ?_
  refine j_ldcS (i := 0) rfl rfl (D_Text_init 30 rfl) ?_
  refine j_cKi (As := []) (c_String_length (i := 0) (by decide)) rfl lk_Text_34 mok_String_length (by decide) (by decide) rfl rfl (Nat.le_of_ble_eq_true rfl) (D_Text_init 31 rfl) (fun _ => ?_) (by decide)
  refine j_top0 (x' := 199) (by decide +kernel) ?_
  refine j_ic_ge (tgt := 101) (D_Text_init 32 rfl) rfl (wr_lit rfl) (wr_lit rfl) (fun h => absurd h (by decide)) (fun _ => ?_)
  refine j_iloadn (k := 1) (D_Text_init 33 rfl) rfl rfl ?_
  refine j_bipush (v := 36) (D_Text_init 34 rfl) rfl ?_
  refine j_ic_gt (tgt := 101) (D_Text_init 35 rfl) rfl (wr_lit rfl) (wr_lit rfl) (fun h => absurd h (by decide)) (fun _ => ?_)
  refine j_ldcS (i := 0) rfl rfl (D_Text_init 36 rfl) ?_
  refine j_iloadn (k := 0) (D_Text_init 37 rfl) rfl rfl ?_
  refine j_cKi (As := [vi 37]) (c_String_charAt (i := 0) (x := 37) (by decide) (wr_lit rfl) (by decide) (by decide)) rfl lk_Text_40 mok_String_charAt (by decide) (by decide) rfl rfl (Nat.le_of_ble_eq_true rfl) (D_Text_init 38 rfl) (fun _ => ?_) (by decide)
  refine j_top0 (x' := 104) (by decide +kernel) ?_
  refine j_bipush (v := 32) (D_Text_init 39 rfl) rfl ?_
  refine j_ic_ne (tgt := 95) (D_Text_init 40 rfl) rfl (wr_lit rfl) (wr_lit rfl) (fun _ => ?_) (fun h => absurd h (by decide))
  refine j_iinc (k := 0) (x' := 38) (L' := [(2, vi 38), (1, vi 7), (0, rf X 15)]) (D_Text_init 49 rfl) rfl (by decide +kernel) (by decide) rfl ?_
  refine j_goto (tgt := 57) (D_Text_init 50 rfl) rfl ?_
  refine j_iloadn (k := 0) (D_Text_init 29 rfl) rfl rfl ?_
  refine j_ldcS (i := 0) rfl rfl (D_Text_init 30 rfl) ?_
  refine j_cKi (As := []) (c_String_length (i := 0) (by decide)) rfl lk_Text_34 mok_String_length (by decide) (by decide) rfl rfl (Nat.le_of_ble_eq_true rfl) (D_Text_init 31 rfl) (fun _ => ?_) (by decide)
  refine j_top0 (x' := 199) (by decide +kernel) ?_
  refine j_ic_ge (tgt := 101) (D_Text_init 32 rfl) rfl (wr_lit rfl) (wr_lit rfl) (fun h => absurd h (by decide)) (fun _ => ?_)
  refine j_iloadn (k := 1) (D_Text_init 33 rfl) rfl rfl ?_
  refine j_bipush (v := 36) (D_Text_init 34 rfl) rfl ?_
  refine j_ic_gt (tgt := 101) (D_Text_init 35 rfl) rfl (wr_lit rfl) (wr_lit rfl) (fun h => absurd h (by decide)) (fun _ => ?_)
  refine j_ldcS (i := 0) rfl rfl (D_Text_init 36 rfl) ?_
  refine j_iloadn (k := 0) (D_Text_init 37 rfl) rfl rfl ?_
  refine j_cKi (As := [vi 38]) (c_String_charAt (i := 0) (x := 38) (by decide) (wr_lit rfl) (by decide) (by decide)) rfl lk_Text_40 mok_String_charAt (by decide) (by decide) rfl rfl (Nat.le_of_ble_eq_true rfl) (D_Text_init 38 rfl) (fun _ => ?_) (by decide)
  refine j_top0 (x' := 97) (by decide +kernel) ?_
  refine j_bipush (v := 32) (D_Text_init 39 rfl) rfl ?_
  refine j_ic_ne (tgt := 95) (D_Text_init 40 rfl) rfl (wr_lit rfl) (wr_lit rfl) (fun _ => ?_) (fun h => absurd h (by decide))
  refine j_iinc (k := 0) (x' := 39) (L' := [(2, vi 39), (1, vi 7), (0, rf X 15)]) (D_Text_init 49 rfl) rfl (by decide +kernel) (by decide) rfl ?_
  refine j_goto (tgt := 57) (D_Text_init 50 rfl) rfl ?_
  refine j_iloadn (k := 0) (D_Text_init 29 rfl) rfl rfl ?_
  refine j_ldcS (i := 0) rfl rfl (D_Text_init 30 rfl) ?_
  refine j_cKi (As := []) (c_String_length (i := 0) (by decide)) rfl lk_Text_34 mok_String_length (by decide) (by decide) rfl rfl (Nat.le_of_ble_eq_true rfl) (D_Text_init 31 rfl) (fun _ => ?_) (by decide)
  refine j_top0 (x' := 199) (by decide +kernel) ?_
  refine j_ic_ge (tgt := 101) (D_Text_init 32 rfl) rfl (wr_lit rfl) (wr_lit rfl) (fun h => absurd h (by decide)) (fun _ => ?_)
  refine j_iloadn (k := 1) (D_Text_init 33 rfl) rfl rfl ?_
  refine j_bipush (v := 36) (D_Text_init 34 rfl) rfl ?_
  refine j_ic_gt (tgt := 101) (D_Text_init 35 rfl) rfl (wr_lit rfl) (wr_lit rfl) (fun h => absurd h (by decide)) (fun _ => ?_)
  refine j_ldcS (i := 0) rfl rfl (D_Text_init 36 rfl) ?_
  refine j_iloadn (k := 0) (D_Text_init 37 rfl) rfl rfl ?_
  refine j_cKi (As := [vi 39]) (c_String_charAt (i := 0) (x := 39) (by decide) (wr_lit rfl) (by decide) (by decide)) rfl lk_Text_40 mok_String_charAt (by decide) (by decide) rfl rfl (Nat.le_of_ble_eq_true rfl) (D_Text_init 38 rfl) (fun _ => ?_) (by decide)
  refine j_top0 (x' := 114) (by decide +kernel) ?_
  refine j_bipush (v := 32) (D_Text_init 39 rfl) rfl ?_
  refine j_ic_ne (tgt := 95) (D_Text_init 40 rfl) rfl (wr_lit rfl) (wr_lit rfl) (fun _ => ?_) (fun h => absurd h (by decide))
  refine j_iinc (k := 0) (x' := 40) (L' := [(2, vi 40), (1, vi 7), (0, rf X 15)]) (D_Text_init 49 rfl) rfl (by decide +kernel) (by decide) rfl ?_
  refine j_goto (tgt := 57) (D_Text_init 50 rfl) rfl ?_
  refine j_iloadn (k := 0) (D_Text_init 29 rfl) rfl rfl ?_
  refine j_ldcS (i := 0) rfl rfl (D_Text_init 30 rfl) ?_
  refine j_cKi (As := []) (c_String_length (i := 0) (by decide)) rfl lk_Text_34 mok_String_length (by decide) (by decide) rfl rfl (Nat.le_of_ble_eq_true rfl) (D_Text_init 31 rfl) (fun _ => ?_) (by decide)
  refine j_top0 (x' := 199) (by decide +kernel) ?_
  refine j_ic_ge (tgt := 101) (D_Text_init 32 rfl) rfl (wr_lit rfl) (wr_lit rfl) (fun h => absurd h (by decide)) (fun _ => ?_)
  refine j_iloadn (k := 1) (D_Text_init 33 rfl) rfl rfl ?_
  refine j_bipush (v := 36) (D_Text_init 34 rfl) rfl ?_
  refine j_ic_gt (tgt := 101) (D_Text_init 35 rfl) rfl (wr_lit rfl) (wr_lit rfl) (fun h => absurd h (by decide)) (fun _ => ?_)
  refine j_ldcS (i := 0) rfl rfl (D_Text_init 36 rfl) ?_
  refine j_iloadn (k := 0) (D_Text_init 37 rfl) rfl rfl ?_
  refine j_cKi (As := [vi 40]) (c_String_charAt (i := 0) (x := 40) (by decide) (wr_lit rfl) (by decide) (by decide)) rfl lk_Text_40 mok_String_charAt (by decide) (by decide) rfl rfl (Nat.le_of_ble_eq_true rfl) (D_Text_init 38 rfl) (fun _ => ?_) (by decide)
  refine j_top0 (x' := 101) (by decide +kernel) ?_
  refine j_bipush (v := 32) (D_Text_init 39 rfl) rfl ?_
  refine j_ic_ne (tgt := 95) (D_Text_init 40 rfl) rfl (wr_lit rfl) (wr_lit rfl) (fun _ => ?_) (fun h => absurd h (by decide))
  refine j_iinc (k := 0) (x' := 41) (L' := [(2, vi 41), (1, vi 7), (0, rf X 15)]) (D_Text_init 49 rfl) rfl (by decide +kernel) (by decide) rfl ?_
  refine j_goto (tgt := 57) (D_Text_init 50 rfl) rfl ?_
  refine j_iloadn (k := 0) (D_Text_init 29 rfl) rfl rfl ?_
  refine j_ldcS (i := 0) rfl rfl (D_Text_init 30 rfl) ?_
  refine j_cKi (As := []) (c_String_length (i := 0) (by decide)) rfl lk_Text_34 mok_String_length (by decide) (by decide) rfl rfl (Nat.le_of_ble_eq_true rfl) (D_Text_init 31 rfl) (fun _ => ?_) (by decide)
  refine j_top0 (x' := 199) (by decide +kernel) ?_
  refine j_ic_ge (tgt := 101) (D_Text_init 32 rfl) rfl (wr_lit rfl) (wr_lit rfl) (fun h => absurd h (by decide)) (fun _ => ?_)
  refine j_iloadn (k := 1) (D_Text_init 33 rfl) rfl rfl ?_
  refine j_bipush (v := 36) (D_Text_init 34 rfl) rfl ?_
  refine j_ic_gt (tgt := 101) (D_Text_init 35 rfl) rfl (wr_lit rfl) (wr_lit rfl) (fun h => absurd h (by decide)) (fun _ => ?_)
  refine j_ldcS (i := 0) rfl rfl (D_Text_init 36 rfl) ?_
  refine j_iloadn (k := 0) (D_Text_init 37 rfl) rfl rfl ?_
  refine j_cKi (As := [vi 41]) (c_String_charAt (i := 0) (x := 41) (by decide) (wr_lit rfl) (by decide) (by decide)) rfl lk_Text_40 mok_String_charAt (by decide) (by decide) rfl rfl (Nat.le_of_ble_eq_true rfl) (D_Text_init 38 rfl) (fun _ => ?_) (by decide)
  refine j_top0 (x' := 32) (by decide +kernel) ?_
  refine j_bipush (v := 32) (D_Text_init 39 rfl) rfl ?_
  refine j_ic_ne (tgt := 95) (D_Text_init 40 rfl) rfl (wr_lit rfl) (wr_lit rfl) (fun h => absurd rfl h) (fun _ => ?_)
  refine j_aloadn (k := 2) (D_Text_init 41 rfl) rfl rfl ?_
  refine j_getR (t := 17) rfl fa_Text_15 kd_15 (by decide) (by decide) rfl (fun _ => by decide +kernel) (by decide) (D_Text_init 42 rfl) ?_
  refine j_iloadn (k := 1) (D_Text_init 43 rfl) rfl rfl ?_
  refine j_iloadn (k := 0) (D_Text_init 44 rfl) rfl rfl ?_
  refine j_iconst (v := 1) (D_Text_init 45 rfl) rfl ?_
  refine j_iadd (D_Text_init 46 rfl) ?_
  refine j_top0 (x' := 42) (by decide +kernel) ?_
  refine j_iast (NI := 37) (D_Text_init 47 rfl) kd_17 (by decide) (wr_lit rfl) rfl (by decide) (by decide) ?_
  refine j_iinc (k := 1) (x' := 8) (L' := [(1, vi 8), (2, vi 41), (0, rf X 15)]) (D_Text_init 48 rfl) rfl (by decide +kernel) (by decide) rfl ?_
  refine j_iinc (k := 1) (x' := 42) (L' := [(2, vi 42), (1, vi 8), (0, rf X 15)]) (D_Text_init 49 rfl) rfl (by decide +kernel) (by decide) rfl ?_
  refine j_goto (tgt := 57) (D_Text_init 50 rfl) rfl ?_
  refine j_iloadn (k := 0) (D_Text_init 29 rfl) rfl rfl ?_
  refine j_ldcS (i := 0) rfl rfl (D_Text_init 30 rfl) ?_
  refine j_cKi (As := []) (c_String_length (i := 0) (by decide)) rfl lk_Text_34 mok_String_length (by decide) (by decide) rfl rfl (Nat.le_of_ble_eq_true rfl) (D_Text_init 31 rfl) (fun _ => ?_) (by decide)
  refine j_top0 (x' := 199) (by decide +kernel) ?_
  refine j_ic_ge (tgt := 101) (D_Text_init 32 rfl) rfl (wr_lit rfl) (wr_lit rfl) (fun h => absurd h (by decide)) (fun _ => ?_)
  refine j_iloadn (k := 1) (D_Text_init 33 rfl) rfl rfl ?_
  refine j_bipush (v := 36) (D_Text_init 34 rfl) rfl ?_
  refine j_ic_gt (tgt := 101) (D_Text_init 35 rfl) rfl (wr_lit rfl) (wr_lit rfl) (fun h => absurd h (by decide)) (fun _ => ?_)
  refine j_ldcS (i := 0) rfl rfl (D_Text_init 36 rfl) ?_
  refine j_iloadn (k := 0) (D_Text_init 37 rfl) rfl rfl ?_
  refine j_cKi (As := [vi 42]) (c_String_charAt (i := 0) (x := 42) (by decide) (wr_lit rfl) (by decide) (by decide)) rfl lk_Text_40 mok_String_charAt (by decide) (by decide) rfl rfl (Nat.le_of_ble_eq_true rfl) (D_Text_init 38 rfl) (fun _ => ?_) (by decide)
  refine j_top0 (x' := 101) (by decide +kernel) ?_
  refine j_bipush (v := 32) (D_Text_init 39 rfl) rfl ?_
  refine j_ic_ne (tgt := 95) (D_Text_init 40 rfl) rfl (wr_lit rfl) (wr_lit rfl) (fun _ => ?_) (fun h => absurd h (by decide))
  refine j_iinc (k := 0) (x' := 43) (L' := [(2, vi 43), (1, vi 8), (0, rf X 15)]) (D_Text_init 49 rfl) rfl (by decide +kernel) (by decide) rfl ?_
  refine j_goto (tgt := 57) (D_Text_init 50 rfl) rfl ?_
  refine j_iloadn (k := 0) (D_Text_init 29 rfl) rfl rfl ?_
  refine j_ldcS (i := 0) rfl rfl (D_Text_init 30 rfl) ?_
  refine j_cKi (As := []) (c_String_length (i := 0) (by decide)) rfl lk_Text_34 mok_String_length (by decide) (by decide) rfl rfl (Nat.le_of_ble_eq_true rfl) (D_Text_init 31 rfl) (fun _ => ?_) (by decide)
  refine j_top0 (x' := 199) (by decide +kernel) ?_
  refine j_ic_ge (tgt := 101) (D_Text_init 32 rfl) rfl (wr_lit rfl) (wr_lit rfl) (fun h => absurd h (by decide)) (fun _ => ?_)
  refine j_iloadn (k := 1) (D_Text_init 33 rfl) rfl rfl ?_
  refine j_bipush (v := 36) (D_Text_init 34 rfl) rfl ?_
  refine j_ic_gt (tgt := 101) (D_Text_init 35 rfl) rfl (wr_lit rfl) (wr_lit rfl) (fun h => absurd h (by decide)) (fun _ => ?_)
  refine j_ldcS (i := 0) rfl rfl (D_Text_init 36 rfl) ?_
  refine j_iloadn (k := 0) (D_Text_init 37 rfl) rfl rfl ?_
  refine j_cKi (As := [vi 43]) (c_String_charAt (i := 0) (x := 43) (by decide) (wr_lit rfl) (by decide) (by decide)) rfl lk_Text_40 mok_String_charAt (by decide) (by decide) rfl rfl (Nat.le_of_ble_eq_true rfl) (D_Text_init 38 rfl) (fun _ => ?_) (by decide)
  refine j_top0 (x' := 108) (by decide +kernel) ?_
  refine j_bipush (v := 32) (D_Text_init 39 rfl) rfl ?_
  refine j_ic_ne (tgt := 95) (D_Text_init 40 rfl) rfl (wr_lit rfl) (wr_lit rfl) (fun _ => ?_) (fun h => absurd h (by decide))
  refine j_iinc (k := 0) (x' := 44) (L' := [(2, vi 44), (1, vi 8), (0, rf X 15)]) (D_Text_init 49 rfl) rfl (by decide +kernel) (by decide) rfl ?_
  refine j_goto (tgt := 57) (D_Text_init 50 rfl) rfl ?_
  refine j_iloadn (k := 0) (D_Text_init 29 rfl) rfl rfl ?_
  refine j_ldcS (i := 0) rfl rfl (D_Text_init 30 rfl) ?_
  refine j_cKi (As := []) (c_String_length (i := 0) (by decide)) rfl lk_Text_34 mok_String_length (by decide) (by decide) rfl rfl (Nat.le_of_ble_eq_true rfl) (D_Text_init 31 rfl) (fun _ => ?_) (by decide)
  refine j_top0 (x' := 199) (by decide +kernel) ?_
  refine j_ic_ge (tgt := 101) (D_Text_init 32 rfl) rfl (wr_lit rfl) (wr_lit rfl) (fun h => absurd h (by decide)) (fun _ => ?_)
  refine j_iloadn (k := 1) (D_Text_init 33 rfl) rfl rfl ?_
  refine j_bipush (v := 36) (D_Text_init 34 rfl) rfl ?_
  refine j_ic_gt (tgt := 101) (D_Text_init 35 rfl) rfl (wr_lit rfl) (wr_lit rfl) (fun h => absurd h (by decide)) (fun _ => ?_)
  refine j_ldcS (i := 0) rfl rfl (D_Text_init 36 rfl) ?_
  refine j_iloadn (k := 0) (D_Text_init 37 rfl) rfl rfl ?_
  refine j_cKi (As := [vi 44]) (c_String_charAt (i := 0) (x := 44) (by decide) (wr_lit rfl) (by decide) (by decide)) rfl lk_Text_40 mok_String_charAt (by decide) (by decide) rfl rfl (Nat.le_of_ble_eq_true rfl) (D_Text_init 38 rfl) (fun _ => ?_) (by decide)
  refine j_top0 (x' := 100) (by decide +kernel) ?_
  refine j_bipush (v := 32) (D_Text_init 39 rfl) rfl ?_
  refine j_ic_ne (tgt := 95) (D_Text_init 40 rfl) rfl (wr_lit rfl) (wr_lit rfl) (fun _ => ?_) (fun h => absurd h (by decide))
  refine j_iinc (k := 0) (x' := 45) (L' := [(2, vi 45), (1, vi 8), (0, rf X 15)]) (D_Text_init 49 rfl) rfl (by decide +kernel) (by decide) rfl ?_
  refine j_goto (tgt := 57) (D_Text_init 50 rfl) rfl ?_
  refine j_iloadn (k := 0) (D_Text_init 29 rfl) rfl rfl ?_
  refine j_ldcS (i := 0) rfl rfl (D_Text_init 30 rfl) ?_
  refine j_cKi (As := []) (c_String_length (i := 0) (by decide)) rfl lk_Text_34 mok_String_length (by decide) (by decide) rfl rfl (Nat.le_of_ble_eq_true rfl) (D_Text_init 31 rfl) (fun _ => ?_) (by decide)
  refine j_top0 (x' := 199) (by decide +kernel) ?_
  refine j_ic_ge (tgt := 101) (D_Text_init 32 rfl) rfl (wr_lit rfl) (wr_lit rfl) (fun h => absurd h (by decide)) (fun _ => ?_)
  refine j_iloadn (k := 1) (D_Text_init 33 rfl) rfl rfl ?_
  refine j_bipush (v := 36) (D_Text_init 34 rfl) rfl ?_
  refine j_ic_gt (tgt := 101) (D_Text_init 35 rfl) rfl (wr_lit rfl) (wr_lit rfl) (fun h => absurd h (by decide)) (fun _ => ?_)
  refine j_ldcS (i := 0) rfl rfl (D_Text_init 36 rfl) ?_
  refine j_iloadn (k := 0) (D_Text_init 37 rfl) rfl rfl ?_
  refine j_cKi (As := [vi 45]) (c_String_charAt (i := 0) (x := 45) (by decide) (wr_lit rfl) (by decide) (by decide)) rfl lk_Text_40 mok_String_charAt (by decide) (by decide) rfl rfl (Nat.le_of_ble_eq_true rfl) (D_Text_init 38 rfl) (fun _ => ?_) (by decide)
  refine j_top0 (x' := 101) (by decide +kernel) ?_
  refine j_bipush (v := 32) (D_Text_init 39 rfl) rfl ?_
  refine j_ic_ne (tgt := 95) (D_Text_init 40 rfl) rfl (wr_lit rfl) (wr_lit rfl) (fun _ => ?_) (fun h => absurd h (by decide))
  refine j_iinc (k := 0) (x' := 46) (L' := [(2, vi 46), (1, vi 8), (0, rf X 15)]) (D_Text_init 49 rfl) rfl (by decide +kernel) (by decide) rfl ?_
  refine j_goto (tgt := 57) (D_Text_init 50 rfl) rfl ?_
  refine j_iloadn (k := 0) (D_Text_init 29 rfl) rfl rfl ?_
  refine j_ldcS (i := 0) rfl rfl (D_Text_init 30 rfl) ?_
  refine j_cKi (As := []) (c_String_length (i := 0) (by decide)) rfl lk_Text_34 mok_String_length (by decide) (by decide) rfl rfl (Nat.le_of_ble_eq_true rfl) (D_Text_init 31 rfl) (fun _ => ?_) (by decide)
  refine j_top0 (x' := 199) (by decide +kernel) ?_
  refine j_ic_ge (tgt := 101) (D_Text_init 32 rfl) rfl (wr_lit rfl) (wr_lit rfl) (fun h => absurd h (by decide)) (fun _ => ?_)
  refine j_iloadn (k := 1) (D_Text_init 33 rfl) rfl rfl ?_
  refine j_bipush (v := 36) (D_Text_init 34 rfl) rfl ?_
  refine j_ic_gt (tgt := 101) (D_Text_init 35 rfl) rfl (wr_lit rfl) (wr_lit rfl) (fun h => absurd h (by decide)) (fun _ => ?_)
  refine j_ldcS (i := 0) rfl rfl (D_Text_init 36 rfl) ?_
  refine j_iloadn (k := 0) (D_Text_init 37 rfl) rfl rfl ?_
  refine j_cKi (As := [vi 46]) (c_String_charAt (i := 0) (x := 46) (by decide) (wr_lit rfl) (by decide) (by decide)) rfl lk_Text_40 mok_String_charAt (by decide) (by decide) rfl rfl (Nat.le_of_ble_eq_true rfl) (D_Text_init 38 rfl) (fun _ => ?_) (by decide)
  refine j_top0 (x' := 115) (by decide +kernel) ?_
  refine j_bipush (v := 32) (D_Text_init 39 rfl) rfl ?_
  refine j_ic_ne (tgt := 95) (D_Text_init 40 rfl) rfl (wr_lit rfl) (wr_lit rfl) (fun _ => ?_) (fun h => absurd h (by decide))
  refine j_iinc (k := 0) (x' := 47) (L' := [(2, vi 47), (1, vi 8), (0, rf X 15)]) (D_Text_init 49 rfl) rfl (by decide +kernel) (by decide) rfl ?_
  refine j_goto (tgt := 57) (D_Text_init 50 rfl) rfl ?_
  refine j_iloadn (k := 0) (D_Text_init 29 rfl) rfl rfl ?_
  refine j_ldcS (i := 0) rfl rfl (D_Text_init 30 rfl) ?_
  refine j_cKi (As := []) (c_String_length (i := 0) (by decide)) rfl lk_Text_34 mok_String_length (by decide) (by decide) rfl rfl (Nat.le_of_ble_eq_true rfl) (D_Text_init 31 rfl) (fun _ => ?_) (by decide)
  refine j_top0 (x' := 199) (by decide +kernel) ?_
  refine j_ic_ge (tgt := 101) (D_Text_init 32 rfl) rfl (wr_lit rfl) (wr_lit rfl) (fun h => absurd h (by decide)) (fun _ => ?_)
  refine j_iloadn (k := 1) (D_Text_init 33 rfl) rfl rfl ?_
  refine j_bipush (v := 36) (D_Text_init 34 rfl) rfl ?_
  refine j_ic_gt (tgt := 101) (D_Text_init 35 rfl) rfl (wr_lit rfl) (wr_lit rfl) (fun h => absurd h (by decide)) (fun _ => ?_)
  refine j_ldcS (i := 0) rfl rfl (D_Text_init 36 rfl) ?_
  refine j_iloadn (k := 0) (D_Text_init 37 rfl) rfl rfl ?_
  refine j_cKi (As := [vi 47]) (c_String_charAt (i := 0) (x := 47) (by decide) (wr_lit rfl) (by decide) (by decide)) rfl lk_Text_40 mok_String_charAt (by decide) (by decide) rfl rfl (Nat.le_of_ble_eq_true rfl) (D_Text_init 38 rfl) (fun _ => ?_) (by decide)
  refine j_top0 (x' := 116) (by decide +kernel) ?_
  refine j_bipush (v := 32) (D_Text_init 39 rfl) rfl ?_
  refine j_ic_ne (tgt := 95) (D_Text_init 40 rfl) rfl (wr_lit rfl) (wr_lit rfl) (fun _ => ?_) (fun h => absurd h (by decide))
  refine j_iinc (k := 0) (x' := 48) (L' := [(2, vi 48), (1, vi 8), (0, rf X 15)]) (D_Text_init 49 rfl) rfl (by decide +kernel) (by decide) rfl ?_
  refine j_goto (tgt := 57) (D_Text_init 50 rfl) rfl ?_
  refine j_iloadn (k := 0) (D_Text_init 29 rfl) rfl rfl ?_
  refine j_ldcS (i := 0) rfl rfl (D_Text_init 30 rfl) ?_
  refine j_cKi (As := []) (c_String_length (i := 0) (by decide)) rfl lk_Text_34 mok_String_length (by decide) (by decide) rfl rfl (Nat.le_of_ble_eq_true rfl) (D_Text_init 31 rfl) (fun _ => ?_) (by decide)
  refine j_top0 (x' := 199) (by decide +kernel) ?_
  refine j_ic_ge (tgt := 101) (D_Text_init 32 rfl) rfl (wr_lit rfl) (wr_lit rfl) (fun h => absurd h (by decide)) (fun _ => ?_)
  refine j_iloadn (k := 1) (D_Text_init 33 rfl) rfl rfl ?_
  refine j_bipush (v := 36) (D_Text_init 34 rfl) rfl ?_
  refine j_ic_gt (tgt := 101) (D_Text_init 35 rfl) rfl (wr_lit rfl) (wr_lit rfl) (fun h => absurd h (by decide)) (fun _ => ?_)
  refine j_ldcS (i := 0) rfl rfl (D_Text_init 36 rfl) ?_
  refine j_iloadn (k := 0) (D_Text_init 37 rfl) rfl rfl ?_
  refine j_cKi (As := [vi 48]) (c_String_charAt (i := 0) (x := 48) (by decide) (wr_lit rfl) (by decide) (by decide)) rfl lk_Text_40 mok_String_charAt (by decide) (by decide) rfl rfl (Nat.le_of_ble_eq_true rfl) (D_Text_init 38 rfl) (fun _ => ?_) (by decide)
  refine j_top0 (x' := 32) (by decide +kernel) ?_
  refine j_bipush (v := 32) (D_Text_init 39 rfl) rfl ?_
  refine j_ic_ne (tgt := 95) (D_Text_init 40 rfl) rfl (wr_lit rfl) (wr_lit rfl) (fun h => absurd rfl h) (fun _ => ?_)
  refine j_aloadn (k := 2) (D_Text_init 41 rfl) rfl rfl ?_
  refine j_getR (t := 17) rfl fa_Text_15 kd_15 (by decide) (by decide) rfl (fun _ => by decide +kernel) (by decide) (D_Text_init 42 rfl) ?_
  refine j_iloadn (k := 1) (D_Text_init 43 rfl) rfl rfl ?_
  refine j_iloadn (k := 0) (D_Text_init 44 rfl) rfl rfl ?_
  refine j_iconst (v := 1) (D_Text_init 45 rfl) rfl ?_
  refine j_iadd (D_Text_init 46 rfl) ?_
  refine j_top0 (x' := 49) (by decide +kernel) ?_
  refine j_iast (NI := 37) (D_Text_init 47 rfl) kd_17 (by decide) (wr_lit rfl) rfl (by decide) (by decide) ?_
  refine j_iinc (k := 1) (x' := 9) (L' := [(1, vi 9), (2, vi 48), (0, rf X 15)]) (D_Text_init 48 rfl) rfl (by decide +kernel) (by decide) rfl ?_
  refine j_iinc (k := 1) (x' := 49) (L' := [(2, vi 49), (1, vi 9), (0, rf X 15)]) (D_Text_init 49 rfl) rfl (by decide +kernel) (by decide) rfl ?_
  refine j_goto (tgt := 57) (D_Text_init 50 rfl) rfl ?_
  refine j_iloadn (k := 0) (D_Text_init 29 rfl) rfl rfl ?_
  refine j_ldcS (i := 0) rfl rfl (D_Text_init 30 rfl) ?_
  refine j_cKi (As := []) (c_String_length (i := 0) (by decide)) rfl lk_Text_34 mok_String_length (by decide) (by decide) rfl rfl (Nat.le_of_ble_eq_true rfl) (D_Text_init 31 rfl) (fun _ => ?_) (by decide)
  refine j_top0 (x' := 199) (by decide +kernel) ?_
  refine j_ic_ge (tgt := 101) (D_Text_init 32 rfl) rfl (wr_lit rfl) (wr_lit rfl) (fun h => absurd h (by decide)) (fun _ => ?_)
  refine j_iloadn (k := 1) (D_Text_init 33 rfl) rfl rfl ?_
  refine j_bipush (v := 36) (D_Text_init 34 rfl) rfl ?_
  refine j_ic_gt (tgt := 101) (D_Text_init 35 rfl) rfl (wr_lit rfl) (wr_lit rfl) (fun h => absurd h (by decide)) (fun _ => ?_)
  refine j_ldcS (i := 0) rfl rfl (D_Text_init 36 rfl) ?_
  refine j_iloadn (k := 0) (D_Text_init 37 rfl) rfl rfl ?_
  refine j_cKi (As := [vi 49]) (c_String_charAt (i := 0) (x := 49) (by decide) (wr_lit rfl) (by decide) (by decide)) rfl lk_Text_40 mok_String_charAt (by decide) (by decide) rfl rfl (Nat.le_of_ble_eq_true rfl) (D_Text_init 38 rfl) (fun _ => ?_) (by decide)
  refine j_top0 (x' := 121) (by decide +kernel) ?_
  refine j_bipush (v := 32) (D_Text_init 39 rfl) rfl ?_
  refine j_ic_ne (tgt := 95) (D_Text_init 40 rfl) rfl (wr_lit rfl) (wr_lit rfl) (fun _ => ?_) (fun h => absurd h (by decide))
  refine j_iinc (k := 0) (x' := 50) (L' := [(2, vi 50), (1, vi 9), (0, rf X 15)]) (D_Text_init 49 rfl) rfl (by decide +kernel) (by decide) rfl ?_
  refine j_goto (tgt := 57) (D_Text_init 50 rfl) rfl ?_
  refine j_iloadn (k := 0) (D_Text_init 29 rfl) rfl rfl ?_
  refine j_ldcS (i := 0) rfl rfl (D_Text_init 30 rfl) ?_
  refine j_cKi (As := []) (c_String_length (i := 0) (by decide)) rfl lk_Text_34 mok_String_length (by decide) (by decide) rfl rfl (Nat.le_of_ble_eq_true rfl) (D_Text_init 31 rfl) (fun _ => ?_) (by decide)
  refine j_top0 (x' := 199) (by decide +kernel) ?_
  refine j_ic_ge (tgt := 101) (D_Text_init 32 rfl) rfl (wr_lit rfl) (wr_lit rfl) (fun h => absurd h (by decide)) (fun _ => ?_)
  refine j_iloadn (k := 1) (D_Text_init 33 rfl) rfl rfl ?_
  refine j_bipush (v := 36) (D_Text_init 34 rfl) rfl ?_
  refine j_ic_gt (tgt := 101) (D_Text_init 35 rfl) rfl (wr_lit rfl) (wr_lit rfl) (fun h => absurd h (by decide)) (fun _ => ?_)
  refine j_ldcS (i := 0) rfl rfl (D_Text_init 36 rfl) ?_
  refine j_iloadn (k := 0) (D_Text_init 37 rfl) rfl rfl ?_
  refine j_cKi (As := [vi 50]) (c_String_charAt (i := 0) (x := 50) (by decide) (wr_lit rfl) (by decide) (by decide)) rfl lk_Text_40 mok_String_charAt (by decide) (by decide) rfl rfl (Nat.le_of_ble_eq_true rfl) (D_Text_init 38 rfl) (fun _ => ?_) (by decide)
  refine j_top0 (x' := 111) (by decide +kernel) ?_
  refine j_bipush (v := 32) (D_Text_init 39 rfl) rfl ?_
  refine j_ic_ne (tgt := 95) (D_Text_init 40 rfl) rfl (wr_lit rfl) (wr_lit rfl) (fun _ => ?_) (fun h => absurd h (by decide))
  refine j_iinc (k := 0) (x' := 51) (L' := [(2, vi 51), (1, vi 9), (0, rf X 15)]) (D_Text_init 49 rfl) rfl (by decide +kernel) (by decide) rfl ?_
  refine j_goto (tgt := 57) (D_Text_init 50 rfl) rfl ?_
  refine j_iloadn (k := 0) (D_Text_init 29 rfl) rfl rfl ?_
  refine j_ldcS (i := 0) rfl rfl (D_Text_init 30 rfl) ?_
  refine j_cKi (As := []) (c_String_length (i := 0) (by decide)) rfl lk_Text_34 mok_String_length (by decide) (by decide) rfl rfl (Nat.le_of_ble_eq_true rfl) (D_Text_init 31 rfl) (fun _ => ?_) (by decide)
  refine j_top0 (x' := 199) (by decide +kernel) ?_
  refine j_ic_ge (tgt := 101) (D_Text_init 32 rfl) rfl (wr_lit rfl) (wr_lit rfl) (fun h => absurd h (by decide)) (fun _ => ?_)
  refine j_iloadn (k := 1) (D_Text_init 33 rfl) rfl rfl ?_
  refine j_bipush (v := 36) (D_Text_init 34 rfl) rfl ?_
  refine j_ic_gt (tgt := 101) (D_Text_init 35 rfl) rfl (wr_lit rfl) (wr_lit rfl) (fun h => absurd h (by decide)) (fun _ => ?_)
  refine j_ldcS (i := 0) rfl rfl (D_Text_init 36 rfl) ?_
  refine j_iloadn (k := 0) (D_Text_init 37 rfl) rfl rfl ?_
  refine j_cKi (As := [vi 51]) (c_String_charAt (i := 0) (x := 51) (by decide) (wr_lit rfl) (by decide) (by decide)) rfl lk_Text_40 mok_String_charAt (by decide) (by decide) rfl rfl (Nat.le_of_ble_eq_true rfl) (D_Text_init 38 rfl) (fun _ => ?_) (by decide)
  refine j_top0 (x' := 117) (by decide +kernel) ?_
  refine j_bipush (v := 32) (D_Text_init 39 rfl) rfl ?_
  refine j_ic_ne (tgt := 95) (D_Text_init 40 rfl) rfl (wr_lit rfl) (wr_lit rfl) (fun _ => ?_) (fun h => absurd h (by decide))
  refine j_iinc (k := 0) (x' := 52) (L' := [(2, vi 52), (1, vi 9), (0, rf X 15)]) (D_Text_init 49 rfl) rfl (by decide +kernel) (by decide) rfl ?_
  refine j_goto (tgt := 57) (D_Text_init 50 rfl) rfl ?_
  refine j_iloadn (k := 0) (D_Text_init 29 rfl) rfl rfl ?_
  refine j_ldcS (i := 0) rfl rfl (D_Text_init 30 rfl) ?_
  refine j_cKi (As := []) (c_String_length (i := 0) (by decide)) rfl lk_Text_34 mok_String_length (by decide) (by decide) rfl rfl (Nat.le_of_ble_eq_true rfl) (D_Text_init 31 rfl) (fun _ => ?_) (by decide)
  refine j_top0 (x' := 199) (by decide +kernel) ?_
  refine j_ic_ge (tgt := 101) (D_Text_init 32 rfl) rfl (wr_lit rfl) (wr_lit rfl) (fun h => absurd h (by decide)) (fun _ => ?_)
  refine j_iloadn (k := 1) (D_Text_init 33 rfl) rfl rfl ?_
  refine j_bipush (v := 36) (D_Text_init 34 rfl) rfl ?_
  refine j_ic_gt (tgt := 101) (D_Text_init 35 rfl) rfl (wr_lit rfl) (wr_lit rfl) (fun h => absurd h (by decide)) (fun _ => ?_)
  refine j_ldcS (i := 0) rfl rfl (D_Text_init 36 rfl) ?_
  refine j_iloadn (k := 0) (D_Text_init 37 rfl) rfl rfl ?_
  refine j_cKi (As := [vi 52]) (c_String_charAt (i := 0) (x := 52) (by decide) (wr_lit rfl) (by decide) (by decide)) rfl lk_Text_40 mok_String_charAt (by decide) (by decide) rfl rfl (Nat.le_of_ble_eq_true rfl) (D_Text_init 38 rfl) (fun _ => ?_) (by decide)
  refine j_top0 (x' := 110) (by decide +kernel) ?_
  refine j_bipush (v := 32) (D_Text_init 39 rfl) rfl ?_
  refine j_ic_ne (tgt := 95) (D_Text_init 40 rfl) rfl (wr_lit rfl) (wr_lit rfl) (fun _ => ?_) (fun h => absurd h (by decide))
  refine j_iinc (k := 0) (x' := 53) (L' := [(2, vi 53), (1, vi 9), (0, rf X 15)]) (D_Text_init 49 rfl) rfl (by decide +kernel) (by decide) rfl ?_
  refine j_goto (tgt := 57) (D_Text_init 50 rfl) rfl ?_
  refine j_iloadn (k := 0) (D_Text_init 29 rfl) rfl rfl ?_
  refine j_ldcS (i := 0) rfl rfl (D_Text_init 30 rfl) ?_
  refine j_cKi (As := []) (c_String_length (i := 0) (by decide)) rfl lk_Text_34 mok_String_length (by decide) (by decide) rfl rfl (Nat.le_of_ble_eq_true rfl) (D_Text_init 31 rfl) (fun _ => ?_) (by decide)
  refine j_top0 (x' := 199) (by decide +kernel) ?_
  refine j_ic_ge (tgt := 101) (D_Text_init 32 rfl) rfl (wr_lit rfl) (wr_lit rfl) (fun h => absurd h (by decide)) (fun _ => ?_)
  refine j_iloadn (k := 1) (D_Text_init 33 rfl) rfl rfl ?_
  refine j_bipush (v := 36) (D_Text_init 34 rfl) rfl ?_
  refine j_ic_gt (tgt := 101) (D_Text_init 35 rfl) rfl (wr_lit rfl) (wr_lit rfl) (fun h => absurd h (by decide)) (fun _ => ?_)
  refine j_ldcS (i := 0) rfl rfl (D_Text_init 36 rfl) ?_
  refine j_iloadn (k := 0) (D_Text_init 37 rfl) rfl rfl ?_
  refine j_cKi (As := [vi 53]) (c_String_charAt (i := 0) (x := 53) (by decide) (wr_lit rfl) (by decide) (by decide)) rfl lk_Text_40 mok_String_charAt (by decide) (by decide) rfl rfl (Nat.le_of_ble_eq_true rfl) (D_Text_init 38 rfl) (fun _ => ?_) (by decide)
  refine j_top0 (x' := 103) (by decide +kernel) ?_
  refine j_bipush (v := 32) (D_Text_init 39 rfl) rfl ?_
  refine j_ic_ne (tgt := 95) (D_Text_init 40 rfl) rfl (wr_lit rfl) (wr_lit rfl) (fun _ => ?_) (fun h => absurd h (by decide))
  refine j_iinc (k := 0) (x' := 54) (L' := [(2, vi 54), (1, vi 9), (0, rf X 15)]) (D_Text_init 49 rfl) rfl (by decide +kernel) (by decide) rfl ?_
  refine j_goto (tgt := 57) (D_Text_init 50 rfl) rfl ?_
  refine j_iloadn (k := 0) (D_Text_init 29 rfl) rfl rfl ?_
  refine j_ldcS (i := 0) rfl rfl (D_Text_init 30 rfl) ?_
  refine j_cKi (As := []) (c_String_length (i := 0) (by decide)) rfl lk_Text_34 mok_String_length (by decide) (by decide) rfl rfl (Nat.le_of_ble_eq_true rfl) (D_Text_init 31 rfl) (fun _ => ?_) (by decide)
  refine j_top0 (x' := 199) (by decide +kernel) ?_
  refine j_ic_ge (tgt := 101) (D_Text_init 32 rfl) rfl (wr_lit rfl) (wr_lit rfl) (fun h => absurd h (by decide)) (fun _ => ?_)
  refine j_iloadn (k := 1) (D_Text_init 33 rfl) rfl rfl ?_
  refine j_bipush (v := 36) (D_Text_init 34 rfl) rfl ?_
  refine j_ic_gt (tgt := 101) (D_Text_init 35 rfl) rfl (wr_lit rfl) (wr_lit rfl) (fun h => absurd h (by decide)) (fun _ => ?_)
  refine j_ldcS (i := 0) rfl rfl (D_Text_init 36 rfl) ?_
  refine j_iloadn (k := 0) (D_Text_init 37 rfl) rfl rfl ?_
  refine j_cKi (As := [vi 54]) (c_String_charAt (i := 0) (x := 54) (by decide) (wr_lit rfl) (by decide) (by decide)) rfl lk_Text_40 mok_String_charAt (by decide) (by decide) rfl rfl (Nat.le_of_ble_eq_true rfl) (D_Text_init 38 rfl) (fun _ => ?_) (by decide)
  refine j_top0 (x' := 101) (by decide +kernel) ?_
  refine j_bipush (v := 32) (D_Text_init 39 rfl) rfl ?_
  refine j_ic_ne (tgt := 95) (D_Text_init 40 rfl) rfl (wr_lit rfl) (wr_lit rfl) (fun _ => ?_) (fun h => absurd h (by decide))
  refine j_iinc (k := 0) (x' := 55) (L' := [(2, vi 55), (1, vi 9), (0, rf X 15)]) (D_Text_init 49 rfl) rfl (by decide +kernel) (by decide) rfl ?_
  refine j_goto (tgt := 57) (D_Text_init 50 rfl) rfl ?_
  refine j_iloadn (k := 0) (D_Text_init 29 rfl) rfl rfl ?_
  refine j_ldcS (i := 0) rfl rfl (D_Text_init 30 rfl) ?_
  refine j_cKi (As := []) (c_String_length (i := 0) (by decide)) rfl lk_Text_34 mok_String_length (by decide) (by decide) rfl rfl (Nat.le_of_ble_eq_true rfl) (D_Text_init 31 rfl) (fun _ => ?_) (by decide)
  refine j_top0 (x' := 199) (by decide +kernel) ?_
  refine j_ic_ge (tgt := 101) (D_Text_init 32 rfl) rfl (wr_lit rfl) (wr_lit rfl) (fun h => absurd h (by decide)) (fun _ => ?_)
  refine j_iloadn (k := 1) (D_Text_init 33 rfl) rfl rfl ?_
  refine j_bipush (v := 36) (D_Text_init 34 rfl) rfl ?_
  refine j_ic_gt (tgt := 101) (D_Text_init 35 rfl) rfl (wr_lit rfl) (wr_lit rfl) (fun h => absurd h (by decide)) (fun _ => ?_)
  refine j_ldcS (i := 0) rfl rfl (D_Text_init 36 rfl) ?_
  refine j_iloadn (k := 0) (D_Text_init 37 rfl) rfl rfl ?_
  refine j_cKi (As := [vi 55]) (c_String_charAt (i := 0) (x := 55) (by decide) (wr_lit rfl) (by decide) (by decide)) rfl lk_Text_40 mok_String_charAt (by decide) (by decide) rfl rfl (Nat.le_of_ble_eq_true rfl) (D_Text_init 38 rfl) (fun _ => ?_) (by decide)
  refine j_top0 (x' := 115) (by decide +kernel) ?_
  refine j_bipush (v := 32) (D_Text_init 39 rfl) rfl ?_
  refine j_ic_ne (tgt := 95) (D_Text_init 40 rfl) rfl (wr_lit rfl) (wr_lit rfl) (fun _ => ?_) (fun h => absurd h (by decide))
  refine j_iinc (k := 0) (x' := 56) (L' := [(2, vi 56), (1, vi 9), (0, rf X 15)]) (D_Text_init 49 rfl) rfl (by decide +kernel) (by decide) rfl ?_
  refine j_goto (tgt := 57) (D_Text_init 50 rfl) rfl ?_
  refine j_iloadn (k := 0) (D_Text_init 29 rfl) rfl rfl ?_
  refine j_ldcS (i := 0) rfl rfl (D_Text_init 30 rfl) ?_
  refine j_cKi (As := []) (c_String_length (i := 0) (by decide)) rfl lk_Text_34 mok_String_length (by decide) (by decide) rfl rfl (Nat.le_of_ble_eq_true rfl) (D_Text_init 31 rfl) (fun _ => ?_) (by decide)
  refine j_top0 (x' := 199) (by decide +kernel) ?_
  refine j_ic_ge (tgt := 101) (D_Text_init 32 rfl) rfl (wr_lit rfl) (wr_lit rfl) (fun h => absurd h (by decide)) (fun _ => ?_)
  refine j_iloadn (k := 1) (D_Text_init 33 rfl) rfl rfl ?_
  refine j_bipush (v := 36) (D_Text_init 34 rfl) rfl ?_
  refine j_ic_gt (tgt := 101) (D_Text_init 35 rfl) rfl (wr_lit rfl) (wr_lit rfl) (fun h => absurd h (by decide)) (fun _ => ?_)
  refine j_ldcS (i := 0) rfl rfl (D_Text_init 36 rfl) ?_
  refine j_iloadn (k := 0) (D_Text_init 37 rfl) rfl rfl ?_
  refine j_cKi (As := [vi 56]) (c_String_charAt (i := 0) (x := 56) (by decide) (wr_lit rfl) (by decide) (by decide)) rfl lk_Text_40 mok_String_charAt (by decide) (by decide) rfl rfl (Nat.le_of_ble_eq_true rfl) (D_Text_init 38 rfl) (fun _ => ?_) (by decide)
  refine j_top0 (x' := 116) (by decide +kernel) ?_
  refine j_bipush (v := 32) (D_Text_init 39 rfl) rfl ?_
  refine j_ic_ne (tgt := 95) (D_Text_init 40 rfl) rfl (wr_lit rfl) (wr_lit rfl) (fun _ => ?_) (fun h => absurd h (by decide))
  refine j_iinc (k := 0) (x' := 57) (L' := [(2, vi 57), (1, vi 9), (0, rf X 15)]) (D_Text_init 49 rfl) rfl (by decide +kernel) (by decide) rfl ?_
  refine j_goto (tgt := 57) (D_Text_init 50 rfl) rfl ?_
  refine j_iloadn (k := 0) (D_Text_init 29 rfl) rfl rfl ?_
  refine j_ldcS (i := 0) rfl rfl (D_Text_init 30 rfl) ?_
  refine j_cKi (As := []) (c_String_length (i := 0) (by decide)) rfl lk_Text_34 mok_String_length (by decide) (by decide) rfl rfl (Nat.le_of_ble_eq_true rfl) (D_Text_init 31 rfl) (fun _ => ?_) (by decide)
  refine j_top0 (x' := 199) (by decide +kernel) ?_
  refine j_ic_ge (tgt := 101) (D_Text_init 32 rfl) rfl (wr_lit rfl) (wr_lit rfl) (fun h => absurd h (by decide)) (fun _ => ?_)
  refine j_iloadn (k := 1) (D_Text_init 33 rfl) rfl rfl ?_
  refine j_bipush (v := 36) (D_Text_init 34 rfl) rfl ?_
  refine j_ic_gt (tgt := 101) (D_Text_init 35 rfl) rfl (wr_lit rfl) (wr_lit rfl) (fun h => absurd h (by decide)) (fun _ => ?_)
  refine j_ldcS (i := 0) rfl rfl (D_Text_init 36 rfl) ?_
  refine j_iloadn (k := 0) (D_Text_init 37 rfl) rfl rfl ?_
  refine j_cKi (As := [vi 57]) (c_String_charAt (i := 0) (x := 57) (by decide) (wr_lit rfl) (by decide) (by decide)) rfl lk_Text_40 mok_String_charAt (by decide) (by decide) rfl rfl (Nat.le_of_ble_eq_true rfl) (D_Text_init 38 rfl) (fun _ => ?_) (by decide)
  refine j_top0 (x' := 32) (by decide +kernel) ?_
  refine j_bipush (v := 32) (D_Text_init 39 rfl) rfl ?_
  refine j_ic_ne (tgt := 95) (D_Text_init 40 rfl) rfl (wr_lit rfl) (wr_lit rfl) (fun h => absurd rfl h) (fun _ => ?_)
  refine j_aloadn (k := 2) (D_Text_init 41 rfl) rfl rfl ?_
  refine j_getR (t := 17) rfl fa_Text_15 kd_15 (by decide) (by decide) rfl (fun _ => by decide +kernel) (by decide) (D_Text_init 42 rfl) ?_
  refine j_iloadn (k := 1) (D_Text_init 43 rfl) rfl rfl ?_
  refine j_iloadn (k := 0) (D_Text_init 44 rfl) rfl rfl ?_
  refine j_iconst (v := 1) (D_Text_init 45 rfl) rfl ?_
  refine j_iadd (D_Text_init 46 rfl) ?_
  refine j_top0 (x' := 58) (by decide +kernel) ?_
  refine j_iast (NI := 37) (D_Text_init 47 rfl) kd_17 (by decide) (wr_lit rfl) rfl (by decide) (by decide) ?_
  refine j_iinc (k := 1) (x' := 10) (L' := [(1, vi 10), (2, vi 57), (0, rf X 15)]) (D_Text_init 48 rfl) rfl (by decide +kernel) (by decide) rfl ?_
  refine j_iinc (k := 1) (x' := 58) (L' := [(2, vi 58), (1, vi 10), (0, rf X 15)]) (D_Text_init 49 rfl) rfl (by decide +kernel) (by decide) rfl ?_
  refine j_goto (tgt := 57) (D_Text_init 50 rfl) rfl ?_
  refine j_iloadn (k := 0) (D_Text_init 29 rfl) rfl rfl ?_
  refine j_ldcS (i := 0) rfl rfl (D_Text_init 30 rfl) ?_
  refine j_cKi (As := []) (c_String_length (i := 0) (by decide)) rfl lk_Text_34 mok_String_length (by decide) (by decide) rfl rfl (Nat.le_of_ble_eq_true rfl) (D_Text_init 31 rfl) (fun _ => ?_) (by decide)
  refine j_top0 (x' := 199) (by decide +kernel) ?_
  refine j_ic_ge (tgt := 101) (D_Text_init 32 rfl) rfl (wr_lit rfl) (wr_lit rfl) (fun h => absurd h (by decide)) (fun _ => ?_)
  refine j_iloadn (k := 1) (D_Text_init 33 rfl) rfl rfl ?_
  refine j_bipush (v := 36) (D_Text_init 34 rfl) rfl ?_
  refine j_ic_gt (tgt := 101) (D_Text_init 35 rfl) rfl (wr_lit rfl) (wr_lit rfl) (fun h => absurd h (by decide)) (fun _ => ?_)
  refine j_ldcS (i := 0) rfl rfl (D_Text_init 36 rfl) ?_
  refine j_iloadn (k := 0) (D_Text_init 37 rfl) rfl rfl ?_
  refine j_cKi (As := [vi 58]) (c_String_charAt (i := 0) (x := 58) (by decide) (wr_lit rfl) (by decide) (by decide)) rfl lk_Text_40 mok_String_charAt (by decide) (by decide) rfl rfl (Nat.le_of_ble_eq_true rfl) (D_Text_init 38 rfl) (fun _ => ?_) (by decide)
  refine j_top0 (x' := 97) (by decide +kernel) ?_
  refine j_bipush (v := 32) (D_Text_init 39 rfl) rfl ?_
  refine j_ic_ne (tgt := 95) (D_Text_init 40 rfl) rfl (wr_lit rfl) (wr_lit rfl) (fun _ => ?_) (fun h => absurd h (by decide))
  refine j_iinc (k := 0) (x' := 59) (L' := [(2, vi 59), (1, vi 10), (0, rf X 15)]) (D_Text_init 49 rfl) rfl (by decide +kernel) (by decide) rfl ?_
  refine j_goto (tgt := 57) (D_Text_init 50 rfl) rfl ?_
  refine j_iloadn (k := 0) (D_Text_init 29 rfl) rfl rfl ?_
  refine j_ldcS (i := 0) rfl rfl (D_Text_init 30 rfl) ?_
  refine j_cKi (As := []) (c_String_length (i := 0) (by decide)) rfl lk_Text_34 mok_String_length (by decide) (by decide) rfl rfl (Nat.le_of_ble_eq_true rfl) (D_Text_init 31 rfl) (fun _ => ?_) (by decide)
  refine j_top0 (x' := 199) (by decide +kernel) ?_
  refine j_ic_ge (tgt := 101) (D_Text_init 32 rfl) rfl (wr_lit rfl) (wr_lit rfl) (fun h => absurd h (by decide)) (fun _ => ?_)
  refine j_iloadn (k := 1) (D_Text_init 33 rfl) rfl rfl ?_
  refine j_bipush (v := 36) (D_Text_init 34 rfl) rfl ?_
  refine j_ic_gt (tgt := 101) (D_Text_init 35 rfl) rfl (wr_lit rfl) (wr_lit rfl) (fun h => absurd h (by decide)) (fun _ => ?_)
  refine j_ldcS (i := 0) rfl rfl (D_Text_init 36 rfl) ?_
  refine j_iloadn (k := 0) (D_Text_init 37 rfl) rfl rfl ?_
  refine j_cKi (As := [vi 59]) (c_String_charAt (i := 0) (x := 59) (by decide) (wr_lit rfl) (by decide) (by decide)) rfl lk_Text_40 mok_String_charAt (by decide) (by decide) rfl rfl (Nat.le_of_ble_eq_true rfl) (D_Text_init 38 rfl) (fun _ => ?_) (by decide)
  refine j_top0 (x' := 108) (by decide +kernel) ?_
  refine j_bipush (v := 32) (D_Text_init 39 rfl) rfl ?_
  refine j_ic_ne (tgt := 95) (D_Text_init 40 rfl) rfl (wr_lit rfl) (wr_lit rfl) (fun _ => ?_) (fun h => absurd h (by decide))
  refine j_iinc (k := 0) (x' := 60) (L' := [(2, vi 60), (1, vi 10), (0, rf X 15)]) (D_Text_init 49 rfl) rfl (by decide +kernel) (by decide) rfl ?_
  refine j_goto (tgt := 57) (D_Text_init 50 rfl) rfl ?_
  refine j_iloadn (k := 0) (D_Text_init 29 rfl) rfl rfl ?_
  refine j_ldcS (i := 0) rfl rfl (D_Text_init 30 rfl) ?_
  refine j_cKi (As := []) (c_String_length (i := 0) (by decide)) rfl lk_Text_34 mok_String_length (by decide) (by decide) rfl rfl (Nat.le_of_ble_eq_true rfl) (D_Text_init 31 rfl) (fun _ => ?_) (by decide)
  refine j_top0 (x' := 199) (by decide +kernel) ?_
  refine j_ic_ge (tgt := 101) (D_Text_init 32 rfl) rfl (wr_lit rfl) (wr_lit rfl) (fun h => absurd h (by decide)) (fun _ => ?_)
  refine j_iloadn (k := 1) (D_Text_init 33 rfl) rfl rfl ?_
  refine j_bipush (v := 36) (D_Text_init 34 rfl) rfl ?_
  refine j_ic_gt (tgt := 101) (D_Text_init 35 rfl) rfl (wr_lit rfl) (wr_lit rfl) (fun h => absurd h (by decide)) (fun _ => ?_)
  refine j_ldcS (i := 0) rfl rfl (D_Text_init 36 rfl) ?_
  refine j_iloadn (k := 0) (D_Text_init 37 rfl) rfl rfl ?_
  refine j_cKi (As := [vi 60]) (c_String_charAt (i := 0) (x := 60) (by decide) (wr_lit rfl) (by decide) (by decide)) rfl lk_Text_40 mok_String_charAt (by decide) (by decide) rfl rfl (Nat.le_of_ble_eq_true rfl) (D_Text_init 38 rfl) (fun _ => ?_) (by decide)
  refine j_top0 (x' := 108) (by decide +kernel) ?_
  refine j_bipush (v := 32) (D_Text_init 39 rfl) rfl ?_
  refine j_ic_ne (tgt := 95) (D_Text_init 40 rfl) rfl (wr_lit rfl) (wr_lit rfl) (fun _ => ?_) (fun h => absurd h (by decide))
  refine j_iinc (k := 0) (x' := 61) (L' := [(2, vi 61), (1, vi 10), (0, rf X 15)]) (D_Text_init 49 rfl) rfl (by decide +kernel) (by decide) rfl ?_
  refine j_goto (tgt := 57) (D_Text_init 50 rfl) rfl ?_
  refine j_iloadn (k := 0) (D_Text_init 29 rfl) rfl rfl ?_
  refine j_ldcS (i := 0) rfl rfl (D_Text_init 30 rfl) ?_
  refine j_cKi (As := []) (c_String_length (i := 0) (by decide)) rfl lk_Text_34 mok_String_length (by decide) (by decide) rfl rfl (Nat.le_of_ble_eq_true rfl) (D_Text_init 31 rfl) (fun _ => ?_) (by decide)
  refine j_top0 (x' := 199) (by decide +kernel) ?_
  refine j_ic_ge (tgt := 101) (D_Text_init 32 rfl) rfl (wr_lit rfl) (wr_lit rfl) (fun h => absurd h (by decide)) (fun _ => ?_)
  refine j_iloadn (k := 1) (D_Text_init 33 rfl) rfl rfl ?_
  refine j_bipush (v := 36) (D_Text_init 34 rfl) rfl ?_
  refine j_ic_gt (tgt := 101) (D_Text_init 35 rfl) rfl (wr_lit rfl) (wr_lit rfl) (fun h => absurd h (by decide)) (fun _ => ?_)
  refine j_ldcS (i := 0) rfl rfl (D_Text_init 36 rfl) ?_
  refine j_iloadn (k := 0) (D_Text_init 37 rfl) rfl rfl ?_
  refine j_cKi (As := [vi 61]) (c_String_charAt (i := 0) (x := 61) (by decide) (wr_lit rfl) (by decide) (by decide)) rfl lk_Text_40 mok_String_charAt (by decide) (by decide) rfl rfl (Nat.le_of_ble_eq_true rfl) (D_Text_init 38 rfl) (fun _ => ?_) (by decide)
  refine j_top0 (x' := 32) (by decide +kernel) ?_
  refine j_bipush (v := 32) (D_Text_init 39 rfl) rfl ?_
  refine j_ic_ne (tgt := 95) (D_Text_init 40 rfl) rfl (wr_lit rfl) (wr_lit rfl) (fun h => absurd rfl h) (fun _ => ?_)
  refine j_aloadn (k := 2) (D_Text_init 41 rfl) rfl rfl ?_
  refine j_getR (t := 17) rfl fa_Text_15 kd_15 (by decide) (by decide) rfl (fun _ => by decide +kernel) (by decide) (D_Text_init 42 rfl) ?_
  refine j_iloadn (k := 1) (D_Text_init 43 rfl) rfl rfl ?_
  refine j_iloadn (k := 0) (D_Text_init 44 rfl) rfl rfl ?_
  refine j_iconst (v := 1) (D_Text_init 45 rfl) rfl ?_
  refine j_iadd (D_Text_init 46 rfl) ?_
  refine j_top0 (x' := 62) (by decide +kernel) ?_
  refine j_iast (NI := 37) (D_Text_init 47 rfl) kd_17 (by decide) (wr_lit rfl) rfl (by decide) (by decide) ?_
  refine j_iinc (k := 1) (x' := 11) (L' := [(1, vi 11), (2, vi 61), (0, rf X 15)]) (D_Text_init 48 rfl) rfl (by decide +kernel) (by decide) rfl ?_
  refine j_iinc (k := 1) (x' := 62) (L' := [(2, vi 62), (1, vi 11), (0, rf X 15)]) (D_Text_init 49 rfl) rfl (by decide +kernel) (by decide) rfl ?_
  refine j_goto (tgt := 57) (D_Text_init 50 rfl) rfl ?_
  refine j_iloadn (k := 0) (D_Text_init 29 rfl) rfl rfl ?_
  refine j_ldcS (i := 0) rfl rfl (D_Text_init 30 rfl) ?_
  refine j_cKi (As := []) (c_String_length (i := 0) (by decide)) rfl lk_Text_34 mok_String_length (by decide) (by decide) rfl rfl (Nat.le_of_ble_eq_true rfl) (D_Text_init 31 rfl) (fun _ => ?_) (by decide)
  refine j_top0 (x' := 199) (by decide +kernel) ?_
  refine j_ic_ge (tgt := 101) (D_Text_init 32 rfl) rfl (wr_lit rfl) (wr_lit rfl) (fun h => absurd h (by decide)) (fun _ => ?_)
  refine j_iloadn (k := 1) (D_Text_init 33 rfl) rfl rfl ?_
  refine j_bipush (v := 36) (D_Text_init 34 rfl) rfl ?_
  refine j_ic_gt (tgt := 101) (D_Text_init 35 rfl) rfl (wr_lit rfl) (wr_lit rfl) (fun h => absurd h (by decide)) (fun _ => ?_)
  refine j_ldcS (i := 0) rfl rfl (D_Text_init 36 rfl) ?_
  refine j_iloadn (k := 0) (D_Text_init 37 rfl) rfl rfl ?_
  refine j_cKi (As := [vi 62]) (c_String_charAt (i := 0) (x := 62) (by decide) (wr_lit rfl) (by decide) (by decide)) rfl lk_Text_40 mok_String_charAt (by decide) (by decide) rfl rfl (Nat.le_of_ble_eq_true rfl) (D_Text_init 38 rfl) (fun _ => ?_) (by decide)
  refine j_top0 (x' := 107) (by decide +kernel) ?_
  refine j_bipush (v := 32) (D_Text_init 39 rfl) rfl ?_
  refine j_ic_ne (tgt := 95) (D_Text_init 40 rfl) rfl (wr_lit rfl) (wr_lit rfl) (fun _ => ?_) (fun h => absurd h (by decide))
  refine j_iinc (k := 0) (x' := 63) (L' := [(2, vi 63), (1, vi 11), (0, rf X 15)]) (D_Text_init 49 rfl) rfl (by decide +kernel) (by decide) rfl ?_
  refine j_goto (tgt := 57) (D_Text_init 50 rfl) rfl ?_
  refine j_iloadn (k := 0) (D_Text_init 29 rfl) rfl rfl ?_
  refine j_ldcS (i := 0) rfl rfl (D_Text_init 30 rfl) ?_
  refine j_cKi (As := []) (c_String_length (i := 0) (by decide)) rfl lk_Text_34 mok_String_length (by decide) (by decide) rfl rfl (Nat.le_of_ble_eq_true rfl) (D_Text_init 31 rfl) (fun _ => ?_) (by decide)
  refine j_top0 (x' := 199) (by decide +kernel) ?_
  refine j_ic_ge (tgt := 101) (D_Text_init 32 rfl) rfl (wr_lit rfl) (wr_lit rfl) (fun h => absurd h (by decide)) (fun _ => ?_)
  refine j_iloadn (k := 1) (D_Text_init 33 rfl) rfl rfl ?_
  refine j_bipush (v := 36) (D_Text_init 34 rfl) rfl ?_
  refine j_ic_gt (tgt := 101) (D_Text_init 35 rfl) rfl (wr_lit rfl) (wr_lit rfl) (fun h => absurd h (by decide)) (fun _ => ?_)
  refine j_ldcS (i := 0) rfl rfl (D_Text_init 36 rfl) ?_
  refine j_iloadn (k := 0) (D_Text_init 37 rfl) rfl rfl ?_
  refine j_cKi (As := [vi 63]) (c_String_charAt (i := 0) (x := 63) (by decide) (wr_lit rfl) (by decide) (by decide)) rfl lk_Text_40 mok_String_charAt (by decide) (by decide) rfl rfl (Nat.le_of_ble_eq_true rfl) (D_Text_init 38 rfl) (fun _ => ?_) (by decide)
  refine j_top0 (x' := 110) (by decide +kernel) ?_
  refine j_bipush (v := 32) (D_Text_init 39 rfl) rfl ?_
  refine j_ic_ne (tgt := 95) (D_Text_init 40 rfl) rfl (wr_lit rfl) (wr_lit rfl) (fun _ => ?_) (fun h => absurd h (by decide))
  refine j_iinc (k := 0) (x' := 64) (L' := [(2, vi 64), (1, vi 11), (0, rf X 15)]) (D_Text_init 49 rfl) rfl (by decide +kernel) (by decide) rfl ?_
  refine j_goto (tgt := 57) (D_Text_init 50 rfl) rfl ?_
  refine j_iloadn (k := 0) (D_Text_init 29 rfl) rfl rfl ?_
  refine j_ldcS (i := 0) rfl rfl (D_Text_init 30 rfl) ?_
  refine j_cKi (As := []) (c_String_length (i := 0) (by decide)) rfl lk_Text_34 mok_String_length (by decide) (by decide) rfl rfl (Nat.le_of_ble_eq_true rfl) (D_Text_init 31 rfl) (fun _ => ?_) (by decide)
  refine j_top0 (x' := 199) (by decide +kernel) ?_
  refine j_ic_ge (tgt := 101) (D_Text_init 32 rfl) rfl (wr_lit rfl) (wr_lit rfl) (fun h => absurd h (by decide)) (fun _ => ?_)
  refine j_iloadn (k := 1) (D_Text_init 33 rfl) rfl rfl ?_
  refine j_bipush (v := 36) (D_Text_init 34 rfl) rfl ?_
  refine j_ic_gt (tgt := 101) (D_Text_init 35 rfl) rfl (wr_lit rfl) (wr_lit rfl) (fun h => absurd h (by decide)) (fun _ => ?_)
  refine j_ldcS (i := 0) rfl rfl (D_Text_init 36 rfl) ?_
  refine j_iloadn (k := 0) (D_Text_init 37 rfl) rfl rfl ?_
  refine j_cKi (As := [vi 64]) (c_String_charAt (i := 0) (x := 64) (by decide) (wr_lit rfl) (by decide) (by decide)) rfl lk_Text_40 mok_String_charAt (by decide) (by decide) rfl rfl (Nat.le_of_ble_eq_true rfl) (D_Text_init 38 rfl) (fun _ => ?_) (by decide)
  refine j_top0 (x' := 105) (by decide +kernel) ?_
  refine j_bipush (v := 32) (D_Text_init 39 rfl) rfl ?_
  refine j_ic_ne (tgt := 95) (D_Text_init 40 rfl) rfl (wr_lit rfl) (wr_lit rfl) (fun _ => ?_) (fun h => absurd h (by decide))
  refine j_iinc (k := 0) (x' := 65) (L' := [(2, vi 65), (1, vi 11), (0, rf X 15)]) (D_Text_init 49 rfl) rfl (by decide +kernel) (by decide) rfl ?_
  refine j_goto (tgt := 57) (D_Text_init 50 rfl) rfl ?_
  refine j_iloadn (k := 0) (D_Text_init 29 rfl) rfl rfl ?_
  refine j_ldcS (i := 0) rfl rfl (D_Text_init 30 rfl) ?_
  refine j_cKi (As := []) (c_String_length (i := 0) (by decide)) rfl lk_Text_34 mok_String_length (by decide) (by decide) rfl rfl (Nat.le_of_ble_eq_true rfl) (D_Text_init 31 rfl) (fun _ => ?_) (by decide)
  refine j_top0 (x' := 199) (by decide +kernel) ?_
  refine j_ic_ge (tgt := 101) (D_Text_init 32 rfl) rfl (wr_lit rfl) (wr_lit rfl) (fun h => absurd h (by decide)) (fun _ => ?_)
  refine j_iloadn (k := 1) (D_Text_init 33 rfl) rfl rfl ?_
  refine j_bipush (v := 36) (D_Text_init 34 rfl) rfl ?_
  refine j_ic_gt (tgt := 101) (D_Text_init 35 rfl) rfl (wr_lit rfl) (wr_lit rfl) (fun h => absurd h (by decide)) (fun _ => ?_)
  refine j_ldcS (i := 0) rfl rfl (D_Text_init 36 rfl) ?_
  refine j_iloadn (k := 0) (D_Text_init 37 rfl) rfl rfl ?_
  refine j_cKi (As := [vi 65]) (c_String_charAt (i := 0) (x := 65) (by decide) (wr_lit rfl) (by decide) (by decide)) rfl lk_Text_40 mok_String_charAt (by decide) (by decide) rfl rfl (Nat.le_of_ble_eq_true rfl) (D_Text_init 38 rfl) (fun _ => ?_) (by decide)
  refine j_top0 (x' := 103) (by decide +kernel) ?_
  refine j_bipush (v := 32) (D_Text_init 39 rfl) rfl ?_
  refine j_ic_ne (tgt := 95) (D_Text_init 40 rfl) rfl (wr_lit rfl) (wr_lit rfl) (fun _ => ?_) (fun h => absurd h (by decide))
  refine j_iinc (k := 0) (x' := 66) (L' := [(2, vi 66), (1, vi 11), (0, rf X 15)]) (D_Text_init 49 rfl) rfl (by decide +kernel) (by decide) rfl ?_
  refine j_goto (tgt := 57) (D_Text_init 50 rfl) rfl ?_
  refine j_iloadn (k := 0) (D_Text_init 29 rfl) rfl rfl ?_
  refine j_ldcS (i := 0) rfl rfl (D_Text_init 30 rfl) ?_
  refine j_cKi (As := []) (c_String_length (i := 0) (by decide)) rfl lk_Text_34 mok_String_length (by decide) (by decide) rfl rfl (Nat.le_of_ble_eq_true rfl) (D_Text_init 31 rfl) (fun _ => ?_) (by decide)
  refine j_top0 (x' := 199) (by decide +kernel) ?_
  refine j_ic_ge (tgt := 101) (D_Text_init 32 rfl) rfl (wr_lit rfl) (wr_lit rfl) (fun h => absurd h (by decide)) (fun _ => ?_)
  refine j_iloadn (k := 1) (D_Text_init 33 rfl) rfl rfl ?_
  refine j_bipush (v := 36) (D_Text_init 34 rfl) rfl ?_
  refine j_ic_gt (tgt := 101) (D_Text_init 35 rfl) rfl (wr_lit rfl) (wr_lit rfl) (fun h => absurd h (by decide)) (fun _ => ?_)
  refine j_ldcS (i := 0) rfl rfl (D_Text_init 36 rfl) ?_
  refine j_iloadn (k := 0) (D_Text_init 37 rfl) rfl rfl ?_
  refine j_cKi (As := [vi 66]) (c_String_charAt (i := 0) (x := 66) (by decide) (wr_lit rfl) (by decide) (by decide)) rfl lk_Text_40 mok_String_charAt (by decide) (by decide) rfl rfl (Nat.le_of_ble_eq_true rfl) (D_Text_init 38 rfl) (fun _ => ?_) (by decide)
  refine j_top0 (x' := 104) (by decide +kernel) ?_
  refine j_bipush (v := 32) (D_Text_init 39 rfl) rfl ?_
  refine j_ic_ne (tgt := 95) (D_Text_init 40 rfl) rfl (wr_lit rfl) (wr_lit rfl) (fun _ => ?_) (fun h => absurd h (by decide))
  refine j_iinc (k := 0) (x' := 67) (L' := [(2, vi 67), (1, vi 11), (0, rf X 15)]) (D_Text_init 49 rfl) rfl (by decide +kernel) (by decide) rfl ?_
  refine j_goto (tgt := 57) (D_Text_init 50 rfl) rfl ?_
  refine j_iloadn (k := 0) (D_Text_init 29 rfl) rfl rfl ?_
  refine j_ldcS (i := 0) rfl rfl (D_Text_init 30 rfl) ?_
  refine j_cKi (As := []) (c_String_length (i := 0) (by decide)) rfl lk_Text_34 mok_String_length (by decide) (by decide) rfl rfl (Nat.le_of_ble_eq_true rfl) (D_Text_init 31 rfl) (fun _ => ?_) (by decide)
  refine j_top0 (x' := 199) (by decide +kernel) ?_
  refine j_ic_ge (tgt := 101) (D_Text_init 32 rfl) rfl (wr_lit rfl) (wr_lit rfl) (fun h => absurd h (by decide)) (fun _ => ?_)
  refine j_iloadn (k := 1) (D_Text_init 33 rfl) rfl rfl ?_
  refine j_bipush (v := 36) (D_Text_init 34 rfl) rfl ?_
  refine j_ic_gt (tgt := 101) (D_Text_init 35 rfl) rfl (wr_lit rfl) (wr_lit rfl) (fun h => absurd h (by decide)) (fun _ => ?_)
  refine j_ldcS (i := 0) rfl rfl (D_Text_init 36 rfl) ?_
  refine j_iloadn (k := 0) (D_Text_init 37 rfl) rfl rfl ?_
  refine j_cKi (As := [vi 67]) (c_String_charAt (i := 0) (x := 67) (by decide) (wr_lit rfl) (by decide) (by decide)) rfl lk_Text_40 mok_String_charAt (by decide) (by decide) rfl rfl (Nat.le_of_ble_eq_true rfl) (D_Text_init 38 rfl) (fun _ => ?_) (by decide)
  refine j_top0 (x' := 116) (by decide +kernel) ?_
  refine j_bipush (v := 32) (D_Text_init 39 rfl) rfl ?_
  refine j_ic_ne (tgt := 95) (D_Text_init 40 rfl) rfl (wr_lit rfl) (wr_lit rfl) (fun _ => ?_) (fun h => absurd h (by decide))
  refine j_iinc (k := 0) (x' := 68) (L' := [(2, vi 68), (1, vi 11), (0, rf X 15)]) (D_Text_init 49 rfl) rfl (by decide +kernel) (by decide) rfl ?_
  refine j_goto (tgt := 57) (D_Text_init 50 rfl) rfl ?_
  refine j_iloadn (k := 0) (D_Text_init 29 rfl) rfl rfl ?_
  refine j_ldcS (i := 0) rfl rfl (D_Text_init 30 rfl) ?_
  refine j_cKi (As := []) (c_String_length (i := 0) (by decide)) rfl lk_Text_34 mok_String_length (by decide) (by decide) rfl rfl (Nat.le_of_ble_eq_true rfl) (D_Text_init 31 rfl) (fun _ => ?_) (by decide)
  refine j_top0 (x' := 199) (by decide +kernel) ?_
  refine j_ic_ge (tgt := 101) (D_Text_init 32 rfl) rfl (wr_lit rfl) (wr_lit rfl) (fun h => absurd h (by decide)) (fun _ => ?_)
  refine j_iloadn (k := 1) (D_Text_init 33 rfl) rfl rfl ?_
  refine j_bipush (v := 36) (D_Text_init 34 rfl) rfl ?_
  refine j_ic_gt (tgt := 101) (D_Text_init 35 rfl) rfl (wr_lit rfl) (wr_lit rfl) (fun h => absurd h (by decide)) (fun _ => ?_)
  refine j_ldcS (i := 0) rfl rfl (D_Text_init 36 rfl) ?_
  refine j_iloadn (k := 0) (D_Text_init 37 rfl) rfl rfl ?_
  refine j_cKi (As := [vi 68]) (c_String_charAt (i := 0) (x := 68) (by decide) (wr_lit rfl) (by decide) (by decide)) rfl lk_Text_40 mok_String_charAt (by decide) (by decide) rfl rfl (Nat.le_of_ble_eq_true rfl) (D_Text_init 38 rfl) (fun _ => ?_) (by decide)
  refine j_top0 (x' := 32) (by decide +kernel) ?_
  refine j_bipush (v := 32) (D_Text_init 39 rfl) rfl ?_
  refine j_ic_ne (tgt := 95) (D_Text_init 40 rfl) rfl (wr_lit rfl) (wr_lit rfl) (fun h => absurd rfl h) (fun _ => ?_)
  refine j_aloadn (k := 2) (D_Text_init 41 rfl) rfl rfl ?_
  refine j_getR (t := 17) rfl fa_Text_15 kd_15 (by decide) (by decide) rfl (fun _ => by decide +kernel) (by decide) (D_Text_init 42 rfl) ?_
  refine j_iloadn (k := 1) (D_Text_init 43 rfl) rfl rfl ?_
  refine j_iloadn (k := 0) (D_Text_init 44 rfl) rfl rfl ?_
  refine j_iconst (v := 1) (D_Text_init 45 rfl) rfl ?_
  refine j_iadd (D_Text_init 46 rfl) ?_
  refine j_top0 (x' := 69) (by decide +kernel) ?_
  refine j_iast (NI := 37) (D_Text_init 47 rfl) kd_17 (by decide) (wr_lit rfl) rfl (by decide) (by decide) ?_
  refine j_iinc (k := 1) (x' := 12) (L' := [(1, vi 12), (2, vi 68), (0, rf X 15)]) (D_Text_init 48 rfl) rfl (by decide +kernel) (by decide) rfl ?_
  refine j_iinc (k := 1) (x' := 69) (L' := [(2, vi 69), (1, vi 12), (0, rf X 15)]) (D_Text_init 49 rfl) rfl (by decide +kernel) (by decide) rfl ?_
  refine j_goto (tgt := 57) (D_Text_init 50 rfl) rfl ?_
  refine j_iloadn (k := 0) (D_Text_init 29 rfl) rfl rfl ?_
  refine j_ldcS (i := 0) rfl rfl (D_Text_init 30 rfl) ?_
  refine j_cKi (As := []) (c_String_length (i := 0) (by decide)) rfl lk_Text_34 mok_String_length (by decide) (by decide) rfl rfl (Nat.le_of_ble_eq_true rfl) (D_Text_init 31 rfl) (fun _ => ?_) (by decide)
  refine j_top0 (x' := 199) (by decide +kernel) ?_
  refine j_ic_ge (tgt := 101) (D_Text_init 32 rfl) rfl (wr_lit rfl) (wr_lit rfl) (fun h => absurd h (by decide)) (fun _ => ?_)
  refine j_iloadn (k := 1) (D_Text_init 33 rfl) rfl rfl ?_
  refine j_bipush (v := 36) (D_Text_init 34 rfl) rfl ?_
  refine j_ic_gt (tgt := 101) (D_Text_init 35 rfl) rfl (wr_lit rfl) (wr_lit rfl) (fun h => absurd h (by decide)) (fun _ => ?_)
  refine j_ldcS (i := 0) rfl rfl (D_Text_init 36 rfl) ?_
  refine j_iloadn (k := 0) (D_Text_init 37 rfl) rfl rfl ?_
  refine j_cKi (As := [vi 69]) (c_String_charAt (i := 0) (x := 69) (by decide) (wr_lit rfl) (by decide) (by decide)) rfl lk_Text_40 mok_String_charAt (by decide) (by decide) rfl rfl (Nat.le_of_ble_eq_true rfl) (D_Text_init 38 rfl) (fun _ => ?_) (by decide)
  refine j_top0 (x' := 115) (by decide +kernel) ?_
  refine j_bipush (v := 32) (D_Text_init 39 rfl) rfl ?_
  refine j_ic_ne (tgt := 95) (D_Text_init 40 rfl) rfl (wr_lit rfl) (wr_lit rfl) (fun _ => ?_) (fun h => absurd h (by decide))
  refine j_iinc (k := 0) (x' := 70) (L' := [(2, vi 70), (1, vi 12), (0, rf X 15)]) (D_Text_init 49 rfl) rfl (by decide +kernel) (by decide) rfl ?_
  refine j_goto (tgt := 57) (D_Text_init 50 rfl) rfl ?_
  refine j_iloadn (k := 0) (D_Text_init 29 rfl) rfl rfl ?_
  refine j_ldcS (i := 0) rfl rfl (D_Text_init 30 rfl) ?_
  refine j_cKi (As := []) (c_String_length (i := 0) (by decide)) rfl lk_Text_34 mok_String_length (by decide) (by decide) rfl rfl (Nat.le_of_ble_eq_true rfl) (D_Text_init 31 rfl) (fun _ => ?_) (by decide)
  refine j_top0 (x' := 199) (by decide +kernel) ?_
  refine j_ic_ge (tgt := 101) (D_Text_init 32 rfl) rfl (wr_lit rfl) (wr_lit rfl) (fun h => absurd h (by decide)) (fun _ => ?_)
  refine j_iloadn (k := 1) (D_Text_init 33 rfl) rfl rfl ?_
  refine j_bipush (v := 36) (D_Text_init 34 rfl) rfl ?_
  refine j_ic_gt (tgt := 101) (D_Text_init 35 rfl) rfl (wr_lit rfl) (wr_lit rfl) (fun h => absurd h (by decide)) (fun _ => ?_)
  refine j_ldcS (i := 0) rfl rfl (D_Text_init 36 rfl) ?_
  refine j_iloadn (k := 0) (D_Text_init 37 rfl) rfl rfl ?_
  refine j_cKi (As := [vi 70]) (c_String_charAt (i := 0) (x := 70) (by decide) (wr_lit rfl) (by decide) (by decide)) rfl lk_Text_40 mok_String_charAt (by decide) (by decide) rfl rfl (Nat.le_of_ble_eq_true rfl) (D_Text_init 38 rfl) (fun _ => ?_) (by decide)
  refine j_top0 (x' := 111) (by decide +kernel) ?_
  refine j_bipush (v := 32) (D_Text_init 39 rfl) rfl ?_
  refine j_ic_ne (tgt := 95) (D_Text_init 40 rfl) rfl (wr_lit rfl) (wr_lit rfl) (fun _ => ?_) (fun h => absurd h (by decide))
  refine j_iinc (k := 0) (x' := 71) (L' := [(2, vi 71), (1, vi 12), (0, rf X 15)]) (D_Text_init 49 rfl) rfl (by decide +kernel) (by decide) rfl ?_
  refine j_goto (tgt := 57) (D_Text_init 50 rfl) rfl ?_
  refine j_iloadn (k := 0) (D_Text_init 29 rfl) rfl rfl ?_
  refine j_ldcS (i := 0) rfl rfl (D_Text_init 30 rfl) ?_
  refine j_cKi (As := []) (c_String_length (i := 0) (by decide)) rfl lk_Text_34 mok_String_length (by decide) (by decide) rfl rfl (Nat.le_of_ble_eq_true rfl) (D_Text_init 31 rfl) (fun _ => ?_) (by decide)
  refine j_top0 (x' := 199) (by decide +kernel) ?_
  refine j_ic_ge (tgt := 101) (D_Text_init 32 rfl) rfl (wr_lit rfl) (wr_lit rfl) (fun h => absurd h (by decide)) (fun _ => ?_)
  refine j_iloadn (k := 1) (D_Text_init 33 rfl) rfl rfl ?_
  refine j_bipush (v := 36) (D_Text_init 34 rfl) rfl ?_
  refine j_ic_gt (tgt := 101) (D_Text_init 35 rfl) rfl (wr_lit rfl) (wr_lit rfl) (fun h => absurd h (by decide)) (fun _ => ?_)
  refine j_ldcS (i := 0) rfl rfl (D_Text_init 36 rfl) ?_
  refine j_iloadn (k := 0) (D_Text_init 37 rfl) rfl rfl ?_
  refine j_cKi (As := [vi 71]) (c_String_charAt (i := 0) (x := 71) (by decide) (wr_lit rfl) (by decide) (by decide)) rfl lk_Text_40 mok_String_charAt (by decide) (by decide) rfl rfl (Nat.le_of_ble_eq_true rfl) (D_Text_init 38 rfl) (fun _ => ?_) (by decide)
  refine j_top0 (x' := 99) (by decide +kernel) ?_
  refine j_bipush (v := 32) (D_Text_init 39 rfl) rfl ?_
  refine j_ic_ne (tgt := 95) (D_Text_init 40 rfl) rfl (wr_lit rfl) (wr_lit rfl) (fun _ => ?_) (fun h => absurd h (by decide))
  refine j_iinc (k := 0) (x' := 72) (L' := [(2, vi 72), (1, vi 12), (0, rf X 15)]) (D_Text_init 49 rfl) rfl (by decide +kernel) (by decide) rfl ?_
  refine j_goto (tgt := 57) (D_Text_init 50 rfl) rfl ?_
  refine j_iloadn (k := 0) (D_Text_init 29 rfl) rfl rfl ?_
  refine j_ldcS (i := 0) rfl rfl (D_Text_init 30 rfl) ?_
  refine j_cKi (As := []) (c_String_length (i := 0) (by decide)) rfl lk_Text_34 mok_String_length (by decide) (by decide) rfl rfl (Nat.le_of_ble_eq_true rfl) (D_Text_init 31 rfl) (fun _ => ?_) (by decide)
  refine j_top0 (x' := 199) (by decide +kernel) ?_
  refine j_ic_ge (tgt := 101) (D_Text_init 32 rfl) rfl (wr_lit rfl) (wr_lit rfl) (fun h => absurd h (by decide)) (fun _ => ?_)
  refine j_iloadn (k := 1) (D_Text_init 33 rfl) rfl rfl ?_
  refine j_bipush (v := 36) (D_Text_init 34 rfl) rfl ?_
  refine j_ic_gt (tgt := 101) (D_Text_init 35 rfl) rfl (wr_lit rfl) (wr_lit rfl) (fun h => absurd h (by decide)) (fun _ => ?_)
  refine j_ldcS (i := 0) rfl rfl (D_Text_init 36 rfl) ?_
  refine j_iloadn (k := 0) (D_Text_init 37 rfl) rfl rfl ?_
  refine j_cKi (As := [vi 72]) (c_String_charAt (i := 0) (x := 72) (by decide) (wr_lit rfl) (by decide) (by decide)) rfl lk_Text_40 mok_String_charAt (by decide) (by decide) rfl rfl (Nat.le_of_ble_eq_true rfl) (D_Text_init 38 rfl) (fun _ => ?_) (by decide)
  refine j_top0 (x' := 97) (by decide +kernel) ?_
  refine j_bipush (v := 32) (D_Text_init 39 rfl) rfl ?_
  refine j_ic_ne (tgt := 95) (D_Text_init 40 rfl) rfl (wr_lit rfl) (wr_lit rfl) (fun _ => ?_) (fun h => absurd h (by decide))
  refine j_iinc (k := 0) (x' := 73) (L' := [(2, vi 73), (1, vi 12), (0, rf X 15)]) (D_Text_init 49 rfl) rfl (by decide +kernel) (by decide) rfl ?_
  refine j_goto (tgt := 57) (D_Text_init 50 rfl) rfl ?_
  refine j_iloadn (k := 0) (D_Text_init 29 rfl) rfl rfl ?_
  refine j_ldcS (i := 0) rfl rfl (D_Text_init 30 rfl) ?_
  refine j_cKi (As := []) (c_String_length (i := 0) (by decide)) rfl lk_Text_34 mok_String_length (by decide) (by decide) rfl rfl (Nat.le_of_ble_eq_true rfl) (D_Text_init 31 rfl) (fun _ => ?_) (by decide)
  refine j_top0 (x' := 199) (by decide +kernel) ?_
  refine j_ic_ge (tgt := 101) (D_Text_init 32 rfl) rfl (wr_lit rfl) (wr_lit rfl) (fun h => absurd h (by decide)) (fun _ => ?_)
  refine j_iloadn (k := 1) (D_Text_init 33 rfl) rfl rfl ?_
  refine j_bipush (v := 36) (D_Text_init 34 rfl) rfl ?_
  refine j_ic_gt (tgt := 101) (D_Text_init 35 rfl) rfl (wr_lit rfl) (wr_lit rfl) (fun h => absurd h (by decide)) (fun _ => ?_)
  refine j_ldcS (i := 0) rfl rfl (D_Text_init 36 rfl) ?_
  refine j_iloadn (k := 0) (D_Text_init 37 rfl) rfl rfl ?_
  refine j_cKi (As := [vi 73]) (c_String_charAt (i := 0) (x := 73) (by decide) (wr_lit rfl) (by decide) (by decide)) rfl lk_Text_40 mok_String_charAt (by decide) (by decide) rfl rfl (Nat.le_of_ble_eq_true rfl) (D_Text_init 38 rfl) (fun _ => ?_) (by decide)
  refine j_top0 (x' := 103) (by decide +kernel) ?_
  refine j_bipush (v := 32) (D_Text_init 39 rfl) rfl ?_
  refine j_ic_ne (tgt := 95) (D_Text_init 40 rfl) rfl (wr_lit rfl) (wr_lit rfl) (fun _ => ?_) (fun h => absurd h (by decide))
  refine j_iinc (k := 0) (x' := 74) (L' := [(2, vi 74), (1, vi 12), (0, rf X 15)]) (D_Text_init 49 rfl) rfl (by decide +kernel) (by decide) rfl ?_
  refine j_goto (tgt := 57) (D_Text_init 50 rfl) rfl ?_
  refine j_iloadn (k := 0) (D_Text_init 29 rfl) rfl rfl ?_
  refine j_ldcS (i := 0) rfl rfl (D_Text_init 30 rfl) ?_
  refine j_cKi (As := []) (c_String_length (i := 0) (by decide)) rfl lk_Text_34 mok_String_length (by decide) (by decide) rfl rfl (Nat.le_of_ble_eq_true rfl) (D_Text_init 31 rfl) (fun _ => ?_) (by decide)
  refine j_top0 (x' := 199) (by decide +kernel) ?_
  refine j_ic_ge (tgt := 101) (D_Text_init 32 rfl) rfl (wr_lit rfl) (wr_lit rfl) (fun h => absurd h (by decide)) (fun _ => ?_)
  refine j_iloadn (k := 1) (D_Text_init 33 rfl) rfl rfl ?_
  refine j_bipush (v := 36) (D_Text_init 34 rfl) rfl ?_
  refine j_ic_gt (tgt := 101) (D_Text_init 35 rfl) rfl (wr_lit rfl) (wr_lit rfl) (fun h => absurd h (by decide)) (fun _ => ?_)
  refine j_ldcS (i := 0) rfl rfl (D_Text_init 36 rfl) ?_
  refine j_iloadn (k := 0) (D_Text_init 37 rfl) rfl rfl ?_
  refine j_cKi (As := [vi 74]) (c_String_charAt (i := 0) (x := 74) (by decide) (wr_lit rfl) (by decide) (by decide)) rfl lk_Text_40 mok_String_charAt (by decide) (by decide) rfl rfl (Nat.le_of_ble_eq_true rfl) (D_Text_init 38 rfl) (fun _ => ?_) (by decide)
  refine j_top0 (x' := 101) (by decide +kernel) ?_
  refine j_bipush (v := 32) (D_Text_init 39 rfl) rfl ?_
  refine j_ic_ne (tgt := 95) (D_Text_init 40 rfl) rfl (wr_lit rfl) (wr_lit rfl) (fun _ => ?_) (fun h => absurd h (by decide))
  refine j_iinc (k := 0) (x' := 75) (L' := [(2, vi 75), (1, vi 12), (0, rf X 15)]) (D_Text_init 49 rfl) rfl (by decide +kernel) (by decide) rfl ?_
  refine j_goto (tgt := 57) (D_Text_init 50 rfl) rfl ?_
  refine j_iloadn (k := 0) (D_Text_init 29 rfl) rfl rfl ?_
  refine j_ldcS (i := 0) rfl rfl (D_Text_init 30 rfl) ?_
  refine j_cKi (As := []) (c_String_length (i := 0) (by decide)) rfl lk_Text_34 mok_String_length (by decide) (by decide) rfl rfl (Nat.le_of_ble_eq_true rfl) (D_Text_init 31 rfl) (fun _ => ?_) (by decide)
  refine j_top0 (x' := 199) (by decide +kernel) ?_
  refine j_ic_ge (tgt := 101) (D_Text_init 32 rfl) rfl (wr_lit rfl) (wr_lit rfl) (fun h => absurd h (by decide)) (fun _ => ?_)
  refine j_iloadn (k := 1) (D_Text_init 33 rfl) rfl rfl ?_
  refine j_bipush (v := 36) (D_Text_init 34 rfl) rfl ?_
  refine j_ic_gt (tgt := 101) (D_Text_init 35 rfl) rfl (wr_lit rfl) (wr_lit rfl) (fun h => absurd h (by decide)) (fun _ => ?_)
  refine j_ldcS (i := 0) rfl rfl (D_Text_init 36 rfl) ?_
  refine j_iloadn (k := 0) (D_Text_init 37 rfl) rfl rfl ?_
  refine j_cKi (As := [vi 75]) (c_String_charAt (i := 0) (x := 75) (by decide) (wr_lit rfl) (by decide) (by decide)) rfl lk_Text_40 mok_String_charAt (by decide) (by decide) rfl rfl (Nat.le_of_ble_eq_true rfl) (D_Text_init 38 rfl) (fun _ => ?_) (by decide)
  refine j_top0 (x' := 32) (by decide +kernel) ?_
  refine j_bipush (v := 32) (D_Text_init 39 rfl) rfl ?_
  refine j_ic_ne (tgt := 95) (D_Text_init 40 rfl) rfl (wr_lit rfl) (wr_lit rfl) (fun h => absurd rfl h) (fun _ => ?_)
  refine j_aloadn (k := 2) (D_Text_init 41 rfl) rfl rfl ?_
  refine j_getR (t := 17) rfl fa_Text_15 kd_15 (by decide) (by decide) rfl (fun _ => by decide +kernel) (by decide) (D_Text_init 42 rfl) ?_
  refine j_iloadn (k := 1) (D_Text_init 43 rfl) rfl rfl ?_
  refine j_iloadn (k := 0) (D_Text_init 44 rfl) rfl rfl ?_
  refine j_iconst (v := 1) (D_Text_init 45 rfl) rfl ?_
  refine j_iadd (D_Text_init 46 rfl) ?_
  refine j_top0 (x' := 76) (by decide +kernel) ?_
  refine j_iast (NI := 37) (D_Text_init 47 rfl) kd_17 (by decide) (wr_lit rfl) rfl (by decide) (by decide) ?_
  refine j_iinc (k := 1) (x' := 13) (L' := [(1, vi 13), (2, vi 75), (0, rf X 15)]) (D_Text_init 48 rfl) rfl (by decide +kernel) (by decide) rfl ?_
  refine j_iinc (k := 1) (x' := 76) (L' := [(2, vi 76), (1, vi 13), (0, rf X 15)]) (D_Text_init 49 rfl) rfl (by decide +kernel) (by decide) rfl ?_
  refine j_goto (tgt := 57) (D_Text_init 50 rfl) rfl ?_
  refine j_iloadn (k := 0) (D_Text_init 29 rfl) rfl rfl ?_
  refine j_ldcS (i := 0) rfl rfl (D_Text_init 30 rfl) ?_
  refine j_cKi (As := []) (c_String_length (i := 0) (by decide)) rfl lk_Text_34 mok_String_length (by decide) (by decide) rfl rfl (Nat.le_of_ble_eq_true rfl) (D_Text_init 31 rfl) (fun _ => ?_) (by decide)
  refine j_top0 (x' := 199) (by decide +kernel) ?_
  refine j_ic_ge (tgt := 101) (D_Text_init 32 rfl) rfl (wr_lit rfl) (wr_lit rfl) (fun h => absurd h (by decide)) (fun _ => ?_)
  refine j_iloadn (k := 1) (D_Text_init 33 rfl) rfl rfl ?_
  refine j_bipush (v := 36) (D_Text_init 34 rfl) rfl ?_
  refine j_ic_gt (tgt := 101) (D_Text_init 35 rfl) rfl (wr_lit rfl) (wr_lit rfl) (fun h => absurd h (by decide)) (fun _ => ?_)
  refine j_ldcS (i := 0) rfl rfl (D_Text_init 36 rfl) ?_
  refine j_iloadn (k := 0) (D_Text_init 37 rfl) rfl rfl ?_
  refine j_cKi (As := [vi 76]) (c_String_charAt (i := 0) (x := 76) (by decide) (wr_lit rfl) (by decide) (by decide)) rfl lk_Text_40 mok_String_charAt (by decide) (by decide) rfl rfl (Nat.le_of_ble_eq_true rfl) (D_Text_init 38 rfl) (fun _ => ?_) (by decide)
  refine j_top0 (x' := 115) (by decide +kernel) ?_
  refine j_bipush (v := 32) (D_Text_init 39 rfl) rfl ?_
  refine j_ic_ne (tgt := 95) (D_Text_init 40 rfl) rfl (wr_lit rfl) (wr_lit rfl) (fun _ => ?_) (fun h => absurd h (by decide))
  refine j_iinc (k := 0) (x' := 77) (L' := [(2, vi 77), (1, vi 13), (0, rf X 15)]) (D_Text_init 49 rfl) rfl (by decide +kernel) (by decide) rfl ?_
  refine j_goto (tgt := 57) (D_Text_init 50 rfl) rfl ?_
  refine j_iloadn (k := 0) (D_Text_init 29 rfl) rfl rfl ?_
  refine j_ldcS (i := 0) rfl rfl (D_Text_init 30 rfl) ?_
  refine j_cKi (As := []) (c_String_length (i := 0) (by decide)) rfl lk_Text_34 mok_String_length (by decide) (by decide) rfl rfl (Nat.le_of_ble_eq_true rfl) (D_Text_init 31 rfl) (fun _ => ?_) (by decide)
  refine j_top0 (x' := 199) (by decide +kernel) ?_
  refine j_ic_ge (tgt := 101) (D_Text_init 32 rfl) rfl (wr_lit rfl) (wr_lit rfl) (fun h => absurd h (by decide)) (fun _ => ?_)
  refine j_iloadn (k := 1) (D_Text_init 33 rfl) rfl rfl ?_
  refine j_bipush (v := 36) (D_Text_init 34 rfl) rfl ?_
  refine j_ic_gt (tgt := 101) (D_Text_init 35 rfl) rfl (wr_lit rfl) (wr_lit rfl) (fun h => absurd h (by decide)) (fun _ => ?_)
  refine j_ldcS (i := 0) rfl rfl (D_Text_init 36 rfl) ?_
  refine j_iloadn (k := 0) (D_Text_init 37 rfl) rfl rfl ?_
  refine j_cKi (As := [vi 77]) (c_String_charAt (i := 0) (x := 77) (by decide) (wr_lit rfl) (by decide) (by decide)) rfl lk_Text_40 mok_String_charAt (by decide) (by decide) rfl rfl (Nat.le_of_ble_eq_true rfl) (D_Text_init 38 rfl) (fun _ => ?_) (by decide)
  refine j_top0 (x' := 101) (by decide +kernel) ?_
  refine j_bipush (v := 32) (D_Text_init 39 rfl) rfl ?_
  refine j_ic_ne (tgt := 95) (D_Text_init 40 rfl) rfl (wr_lit rfl) (wr_lit rfl) (fun _ => ?_) (fun h => absurd h (by decide))
  refine j_iinc (k := 0) (x' := 78) (L' := [(2, vi 78), (1, vi 13), (0, rf X 15)]) (D_Text_init 49 rfl) rfl (by decide +kernel) (by decide) rfl ?_
  refine j_goto (tgt := 57) (D_Text_init 50 rfl) rfl ?_
  refine j_iloadn (k := 0) (D_Text_init 29 rfl) rfl rfl ?_
  refine j_ldcS (i := 0) rfl rfl (D_Text_init 30 rfl) ?_
  refine j_cKi (As := []) (c_String_length (i := 0) (by decide)) rfl lk_Text_34 mok_String_length (by decide) (by decide) rfl rfl (Nat.le_of_ble_eq_true rfl) (D_Text_init 31 rfl) (fun _ => ?_) (by decide)
  refine j_top0 (x' := 199) (by decide +kernel) ?_
  refine j_ic_ge (tgt := 101) (D_Text_init 32 rfl) rfl (wr_lit rfl) (wr_lit rfl) (fun h => absurd h (by decide)) (fun _ => ?_)
  refine j_iloadn (k := 1) (D_Text_init 33 rfl) rfl rfl ?_
  refine j_bipush (v := 36) (D_Text_init 34 rfl) rfl ?_
  refine j_ic_gt (tgt := 101) (D_Text_init 35 rfl) rfl (wr_lit rfl) (wr_lit rfl) (fun h => absurd h (by decide)) (fun _ => ?_)
  refine j_ldcS (i := 0) rfl rfl (D_Text_init 36 rfl) ?_
  refine j_iloadn (k := 0) (D_Text_init 37 rfl) rfl rfl ?_
  refine j_cKi (As := [vi 78]) (c_String_charAt (i := 0) (x := 78) (by decide) (wr_lit rfl) (by decide) (by decide)) rfl lk_Text_40 mok_String_charAt (by decide) (by decide) rfl rfl (Nat.le_of_ble_eq_true rfl) (D_Text_init 38 rfl) (fun _ => ?_) (by decide)
  refine j_top0 (x' := 114) (by decide +kernel) ?_
  refine j_bipush (v := 32) (D_Text_init 39 rfl) rfl ?_
  refine j_ic_ne (tgt := 95) (D_Text_init 40 rfl) rfl (wr_lit rfl) (wr_lit rfl) (fun _ => ?_) (fun h => absurd h (by decide))
  refine j_iinc (k := 0) (x' := 79) (L' := [(2, vi 79), (1, vi 13), (0, rf X 15)]) (D_Text_init 49 rfl) rfl (by decide +kernel) (by decide) rfl ?_
  refine j_goto (tgt := 57) (D_Text_init 50 rfl) rfl ?_
  refine j_iloadn (k := 0) (D_Text_init 29 rfl) rfl rfl ?_
  refine j_ldcS (i := 0) rfl rfl (D_Text_init 30 rfl) ?_
  refine j_cKi (As := []) (c_String_length (i := 0) (by decide)) rfl lk_Text_34 mok_String_length (by decide) (by decide) rfl rfl (Nat.le_of_ble_eq_true rfl) (D_Text_init 31 rfl) (fun _ => ?_) (by decide)
  refine j_top0 (x' := 199) (by decide +kernel) ?_
  refine j_ic_ge (tgt := 101) (D_Text_init 32 rfl) rfl (wr_lit rfl) (wr_lit rfl) (fun h => absurd h (by decide)) (fun _ => ?_)
  refine j_iloadn (k := 1) (D_Text_init 33 rfl) rfl rfl ?_
  refine j_bipush (v := 36) (D_Text_init 34 rfl) rfl ?_
  refine j_ic_gt (tgt := 101) (D_Text_init 35 rfl) rfl (wr_lit rfl) (wr_lit rfl) (fun h => absurd h (by decide)) (fun _ => ?_)
  refine j_ldcS (i := 0) rfl rfl (D_Text_init 36 rfl) ?_
  refine j_iloadn (k := 0) (D_Text_init 37 rfl) rfl rfl ?_
  refine j_cKi (As := [vi 79]) (c_String_charAt (i := 0) (x := 79) (by decide) (wr_lit rfl) (by decide) (by decide)) rfl lk_Text_40 mok_String_charAt (by decide) (by decide) rfl rfl (Nat.le_of_ble_eq_true rfl) (D_Text_init 38 rfl) (fun _ => ?_) (by decide)
  refine j_top0 (x' := 106) (by decide +kernel) ?_
  refine j_bipush (v := 32) (D_Text_init 39 rfl) rfl ?_
  refine j_ic_ne (tgt := 95) (D_Text_init 40 rfl) rfl (wr_lit rfl) (wr_lit rfl) (fun _ => ?_) (fun h => absurd h (by decide))
  refine j_iinc (k := 0) (x' := 80) (L' := [(2, vi 80), (1, vi 13), (0, rf X 15)]) (D_Text_init 49 rfl) rfl (by decide +kernel) (by decide) rfl ?_
  refine j_goto (tgt := 57) (D_Text_init 50 rfl) rfl ?_
  refine j_iloadn (k := 0) (D_Text_init 29 rfl) rfl rfl ?_
  refine j_ldcS (i := 0) rfl rfl (D_Text_init 30 rfl) ?_
  refine j_cKi (As := []) (c_String_length (i := 0) (by decide)) rfl lk_Text_34 mok_String_length (by decide) (by decide) rfl rfl (Nat.le_of_ble_eq_true rfl) (D_Text_init 31 rfl) (fun _ => ?_) (by decide)
  refine j_top0 (x' := 199) (by decide +kernel) ?_
  refine j_ic_ge (tgt := 101) (D_Text_init 32 rfl) rfl (wr_lit rfl) (wr_lit rfl) (fun h => absurd h (by decide)) (fun _ => ?_)
  refine j_iloadn (k := 1) (D_Text_init 33 rfl) rfl rfl ?_
  refine j_bipush (v := 36) (D_Text_init 34 rfl) rfl ?_
  refine j_ic_gt (tgt := 101) (D_Text_init 35 rfl) rfl (wr_lit rfl) (wr_lit rfl) (fun h => absurd h (by decide)) (fun _ => ?_)
  refine j_ldcS (i := 0) rfl rfl (D_Text_init 36 rfl) ?_
  refine j_iloadn (k := 0) (D_Text_init 37 rfl) rfl rfl ?_
  refine j_cKi (As := [vi 80]) (c_String_charAt (i := 0) (x := 80) (by decide) (wr_lit rfl) (by decide) (by decide)) rfl lk_Text_40 mok_String_charAt (by decide) (by decide) rfl rfl (Nat.le_of_ble_eq_true rfl) (D_Text_init 38 rfl) (fun _ => ?_) (by decide)
  refine j_top0 (x' := 101) (by decide +kernel) ?_
  refine j_bipush (v := 32) (D_Text_init 39 rfl) rfl ?_
  refine j_ic_ne (tgt := 95) (D_Text_init 40 rfl) rfl (wr_lit rfl) (wr_lit rfl) (fun _ => ?_) (fun h => absurd h (by decide))
  refine j_iinc (k := 0) (x' := 81) (L' := [(2, vi 81), (1, vi 13), (0, rf X 15)]) (D_Text_init 49 rfl) rfl (by decide +kernel) (by decide) rfl ?_
  refine j_goto (tgt := 57) (D_Text_init 50 rfl) rfl ?_
  refine j_iloadn (k := 0) (D_Text_init 29 rfl) rfl rfl ?_
  refine j_ldcS (i := 0) rfl rfl (D_Text_init 30 rfl) ?_
  refine j_cKi (As := []) (c_String_length (i := 0) (by decide)) rfl lk_Text_34 mok_String_length (by decide) (by decide) rfl rfl (Nat.le_of_ble_eq_true rfl) (D_Text_init 31 rfl) (fun _ => ?_) (by decide)
  refine j_top0 (x' := 199) (by decide +kernel) ?_
  refine j_ic_ge (tgt := 101) (D_Text_init 32 rfl) rfl (wr_lit rfl) (wr_lit rfl) (fun h => absurd h (by decide)) (fun _ => ?_)
  refine j_iloadn (k := 1) (D_Text_init 33 rfl) rfl rfl ?_
  refine j_bipush (v := 36) (D_Text_init 34 rfl) rfl ?_
  refine j_ic_gt (tgt := 101) (D_Text_init 35 rfl) rfl (wr_lit rfl) (wr_lit rfl) (fun h => absurd h (by decide)) (fun _ => ?_)
  refine j_ldcS (i := 0) rfl rfl (D_Text_init 36 rfl) ?_
  refine j_iloadn (k := 0) (D_Text_init 37 rfl) rfl rfl ?_
  refine j_cKi (As := [vi 81]) (c_String_charAt (i := 0) (x := 81) (by decide) (wr_lit rfl) (by decide) (by decide)) rfl lk_Text_40 mok_String_charAt (by decide) (by decide) rfl rfl (Nat.le_of_ble_eq_true rfl) (D_Text_init 38 rfl) (fun _ => ?_) (by decide)
  refine j_top0 (x' := 97) (by decide +kernel) ?_
  refine j_bipush (v := 32) (D_Text_init 39 rfl) rfl ?_
  refine j_ic_ne (tgt := 95) (D_Text_init 40 rfl) rfl (wr_lit rfl) (wr_lit rfl) (fun _ => ?_) (fun h => absurd h (by decide))
  refine j_iinc (k := 0) (x' := 82) (L' := [(2, vi 82), (1, vi 13), (0, rf X 15)]) (D_Text_init 49 rfl) rfl (by decide +kernel) (by decide) rfl ?_
  refine j_goto (tgt := 57) (D_Text_init 50 rfl) rfl ?_
  refine j_iloadn (k := 0) (D_Text_init 29 rfl) rfl rfl ?_
  refine j_ldcS (i := 0) rfl rfl (D_Text_init 30 rfl) ?_
  refine j_cKi (As := []) (c_String_length (i := 0) (by decide)) rfl lk_Text_34 mok_String_length (by decide) (by decide) rfl rfl (Nat.le_of_ble_eq_true rfl) (D_Text_init 31 rfl) (fun _ => ?_) (by decide)
  refine j_top0 (x' := 199) (by decide +kernel) ?_
  refine j_ic_ge (tgt := 101) (D_Text_init 32 rfl) rfl (wr_lit rfl) (wr_lit rfl) (fun h => absurd h (by decide)) (fun _ => ?_)
  refine j_iloadn (k := 1) (D_Text_init 33 rfl) rfl rfl ?_
  refine j_bipush (v := 36) (D_Text_init 34 rfl) rfl ?_
  refine j_ic_gt (tgt := 101) (D_Text_init 35 rfl) rfl (wr_lit rfl) (wr_lit rfl) (fun h => absurd h (by decide)) (fun _ => ?_)
  refine j_ldcS (i := 0) rfl rfl (D_Text_init 36 rfl) ?_
  refine j_iloadn (k := 0) (D_Text_init 37 rfl) rfl rfl ?_
  refine j_cKi (As := [vi 82]) (c_String_charAt (i := 0) (x := 82) (by decide) (wr_lit rfl) (by decide) (by decide)) rfl lk_Text_40 mok_String_charAt (by decide) (by decide) rfl rfl (Nat.le_of_ble_eq_true rfl) (D_Text_init 38 rfl) (fun _ => ?_) (by decide)
  refine j_top0 (x' := 110) (by decide +kernel) ?_
  refine j_bipush (v := 32) (D_Text_init 39 rfl) rfl ?_
  refine j_ic_ne (tgt := 95) (D_Text_init 40 rfl) rfl (wr_lit rfl) (wr_lit rfl) (fun _ => ?_) (fun h => absurd h (by decide))
  refine j_iinc (k := 0) (x' := 83) (L' := [(2, vi 83), (1, vi 13), (0, rf X 15)]) (D_Text_init 49 rfl) rfl (by decide +kernel) (by decide) rfl ?_
  refine j_goto (tgt := 57) (D_Text_init 50 rfl) rfl ?_
  refine j_iloadn (k := 0) (D_Text_init 29 rfl) rfl rfl ?_
  refine j_ldcS (i := 0) rfl rfl (D_Text_init 30 rfl) ?_
  refine j_cKi (As := []) (c_String_length (i := 0) (by decide)) rfl lk_Text_34 mok_String_length (by decide) (by decide) rfl rfl (Nat.le_of_ble_eq_true rfl) (D_Text_init 31 rfl) (fun _ => ?_) (by decide)
  refine j_top0 (x' := 199) (by decide +kernel) ?_
  refine j_ic_ge (tgt := 101) (D_Text_init 32 rfl) rfl (wr_lit rfl) (wr_lit rfl) (fun h => absurd h (by decide)) (fun _ => ?_)
  refine j_iloadn (k := 1) (D_Text_init 33 rfl) rfl rfl ?_
  refine j_bipush (v := 36) (D_Text_init 34 rfl) rfl ?_
  refine j_ic_gt (tgt := 101) (D_Text_init 35 rfl) rfl (wr_lit rfl) (wr_lit rfl) (fun h => absurd h (by decide)) (fun _ => ?_)
  refine j_ldcS (i := 0) rfl rfl (D_Text_init 36 rfl) ?_
  refine j_iloadn (k := 0) (D_Text_init 37 rfl) rfl rfl ?_
  refine j_cKi (As := [vi 83]) (c_String_charAt (i := 0) (x := 83) (by decide) (wr_lit rfl) (by decide) (by decide)) rfl lk_Text_40 mok_String_charAt (by decide) (by decide) rfl rfl (Nat.le_of_ble_eq_true rfl) (D_Text_init 38 rfl) (fun _ => ?_) (by decide)
  refine j_top0 (x' := 116) (by decide +kernel) ?_
  refine j_bipush (v := 32) (D_Text_init 39 rfl) rfl ?_
  refine j_ic_ne (tgt := 95) (D_Text_init 40 rfl) rfl (wr_lit rfl) (wr_lit rfl) (fun _ => ?_) (fun h => absurd h (by decide))
  refine j_iinc (k := 0) (x' := 84) (L' := [(2, vi 84), (1, vi 13), (0, rf X 15)]) (D_Text_init 49 rfl) rfl (by decide +kernel) (by decide) rfl ?_
  refine j_goto (tgt := 57) (D_Text_init 50 rfl) rfl ?_
  refine j_iloadn (k := 0) (D_Text_init 29 rfl) rfl rfl ?_
  refine j_ldcS (i := 0) rfl rfl (D_Text_init 30 rfl) ?_
  refine j_cKi (As := []) (c_String_length (i := 0) (by decide)) rfl lk_Text_34 mok_String_length (by decide) (by decide) rfl rfl (Nat.le_of_ble_eq_true rfl) (D_Text_init 31 rfl) (fun _ => ?_) (by decide)
  refine j_top0 (x' := 199) (by decide +kernel) ?_
  refine j_ic_ge (tgt := 101) (D_Text_init 32 rfl) rfl (wr_lit rfl) (wr_lit rfl) (fun h => absurd h (by decide)) (fun _ => ?_)
  refine j_iloadn (k := 1) (D_Text_init 33 rfl) rfl rfl ?_
  refine j_bipush (v := 36) (D_Text_init 34 rfl) rfl ?_
  refine j_ic_gt (tgt := 101) (D_Text_init 35 rfl) rfl (wr_lit rfl) (wr_lit rfl) (fun h => absurd h (by decide)) (fun _ => ?_)
  refine j_ldcS (i := 0) rfl rfl (D_Text_init 36 rfl) ?_
  refine j_iloadn (k := 0) (D_Text_init 37 rfl) rfl rfl ?_
  refine j_cKi (As := [vi 84]) (c_String_charAt (i := 0) (x := 84) (by decide) (wr_lit rfl) (by decide) (by decide)) rfl lk_Text_40 mok_String_charAt (by decide) (by decide) rfl rfl (Nat.le_of_ble_eq_true rfl) (D_Text_init 38 rfl) (fun _ => ?_) (by decide)
  refine j_top0 (x' := 121) (by decide +kernel) ?_
  refine j_bipush (v := 32) (D_Text_init 39 rfl) rfl ?_
  refine j_ic_ne (tgt := 95) (D_Text_init 40 rfl) rfl (wr_lit rfl) (wr_lit rfl) (fun _ => ?_) (fun h => absurd h (by decide))
  refine j_iinc (k := 0) (x' := 85) (L' := [(2, vi 85), (1, vi 13), (0, rf X 15)]) (D_Text_init 49 rfl) rfl (by decide +kernel) (by decide) rfl ?_
  refine j_goto (tgt := 57) (D_Text_init 50 rfl) rfl ?_
  refine j_iloadn (k := 0) (D_Text_init 29 rfl) rfl rfl ?_
  refine j_ldcS (i := 0) rfl rfl (D_Text_init 30 rfl) ?_
  refine j_cKi (As := []) (c_String_length (i := 0) (by decide)) rfl lk_Text_34 mok_String_length (by decide) (by decide) rfl rfl (Nat.le_of_ble_eq_true rfl) (D_Text_init 31 rfl) (fun _ => ?_) (by decide)
  refine j_top0 (x' := 199) (by decide +kernel) ?_
  refine j_ic_ge (tgt := 101) (D_Text_init 32 rfl) rfl (wr_lit rfl) (wr_lit rfl) (fun h => absurd h (by decide)) (fun _ => ?_)
  refine j_iloadn (k := 1) (D_Text_init 33 rfl) rfl rfl ?_
  refine j_bipush (v := 36) (D_Text_init 34 rfl) rfl ?_
  refine j_ic_gt (tgt := 101) (D_Text_init 35 rfl) rfl (wr_lit rfl) (wr_lit rfl) (fun h => absurd h (by decide)) (fun _ => ?_)
  refine j_ldcS (i := 0) rfl rfl (D_Text_init 36 rfl) ?_
  refine j_iloadn (k := 0) (D_Text_init 37 rfl) rfl rfl ?_
  refine j_cKi (As := [vi 85]) (c_String_charAt (i := 0) (x := 85) (by decide) (wr_lit rfl) (by decide) (by decide)) rfl lk_Text_40 mok_String_charAt (by decide) (by decide) rfl rfl (Nat.le_of_ble_eq_true rfl) (D_Text_init 38 rfl) (fun _ => ?_) (by decide)
  refine j_top0 (x' := 32) (by decide +kernel) ?_
  refine j_bipush (v := 32) (D_Text_init 39 rfl) rfl ?_
  refine j_ic_ne (tgt := 95) (D_Text_init 40 rfl) rfl (wr_lit rfl) (wr_lit rfl) (fun h => absurd rfl h) (fun _ => ?_)
  refine j_aloadn (k := 2) (D_Text_init 41 rfl) rfl rfl ?_
  refine j_getR (t := 17) rfl fa_Text_15 kd_15 (by decide) (by decide) rfl (fun _ => by decide +kernel) (by decide) (D_Text_init 42 rfl) ?_
  refine j_iloadn (k := 1) (D_Text_init 43 rfl) rfl rfl ?_
  refine j_iloadn (k := 0) (D_Text_init 44 rfl) rfl rfl ?_
  refine j_iconst (v := 1) (D_Text_init 45 rfl) rfl ?_
  refine j_iadd (D_Text_init 46 rfl) ?_
  refine j_top0 (x' := 86) (by decide +kernel) ?_
  refine j_iast (NI := 37) (D_Text_init 47 rfl) kd_17 (by decide) (wr_lit rfl) rfl (by decide) (by decide) ?_
  refine j_iinc (k := 1) (x' := 14) (L' := [(1, vi 14), (2, vi 85), (0, rf X 15)]) (D_Text_init 48 rfl) rfl (by decide +kernel) (by decide) rfl ?_
  refine j_iinc (k := 1) (x' := 86) (L' := [(2, vi 86), (1, vi 14), (0, rf X 15)]) (D_Text_init 49 rfl) rfl (by decide +kernel) (by decide) rfl ?_
  refine j_goto (tgt := 57) (D_Text_init 50 rfl) rfl ?_
  refine j_iloadn (k := 0) (D_Text_init 29 rfl) rfl rfl ?_
  refine j_ldcS (i := 0) rfl rfl (D_Text_init 30 rfl) ?_
  refine j_cKi (As := []) (c_String_length (i := 0) (by decide)) rfl lk_Text_34 mok_String_length (by decide) (by decide) rfl rfl (Nat.le_of_ble_eq_true rfl) (D_Text_init 31 rfl) (fun _ => ?_) (by decide)
  refine j_top0 (x' := 199) (by decide +kernel) ?_
  refine j_ic_ge (tgt := 101) (D_Text_init 32 rfl) rfl (wr_lit rfl) (wr_lit rfl) (fun h => absurd h (by decide)) (fun _ => ?_)
  refine j_iloadn (k := 1) (D_Text_init 33 rfl) rfl rfl ?_
  refine j_bipush (v := 36) (D_Text_init 34 rfl) rfl ?_
  refine j_ic_gt (tgt := 101) (D_Text_init 35 rfl) rfl (wr_lit rfl) (wr_lit rfl) (fun h => absurd h (by decide)) (fun _ => ?_)
  refine j_ldcS (i := 0) rfl rfl (D_Text_init 36 rfl) ?_
  refine j_iloadn (k := 0) (D_Text_init 37 rfl) rfl rfl ?_
  refine j_cKi (As := [vi 86]) (c_String_charAt (i := 0) (x := 86) (by decide) (wr_lit rfl) (by decide) (by decide)) rfl lk_Text_40 mok_String_charAt (by decide) (by decide) rfl rfl (Nat.le_of_ble_eq_true rfl) (D_Text_init 38 rfl) (fun _ => ?_) (by decide)
  refine j_top0 (x' := 108) (by decide +kernel) ?_
  refine j_bipush (v := 32) (D_Text_init 39 rfl) rfl ?_
  refine j_ic_ne (tgt := 95) (D_Text_init 40 rfl) rfl (wr_lit rfl) (wr_lit rfl) (fun _ => ?_) (fun h => absurd h (by decide))
  refine j_iinc (k := 0) (x' := 87) (L' := [(2, vi 87), (1, vi 14), (0, rf X 15)]) (D_Text_init 49 rfl) rfl (by decide +kernel) (by decide) rfl ?_
  refine j_goto (tgt := 57) (D_Text_init 50 rfl) rfl ?_
  refine j_iloadn (k := 0) (D_Text_init 29 rfl) rfl rfl ?_
  refine j_ldcS (i := 0) rfl rfl (D_Text_init 30 rfl) ?_
  refine j_cKi (As := []) (c_String_length (i := 0) (by decide)) rfl lk_Text_34 mok_String_length (by decide) (by decide) rfl rfl (Nat.le_of_ble_eq_true rfl) (D_Text_init 31 rfl) (fun _ => ?_) (by decide)
  refine j_top0 (x' := 199) (by decide +kernel) ?_
  refine j_ic_ge (tgt := 101) (D_Text_init 32 rfl) rfl (wr_lit rfl) (wr_lit rfl) (fun h => absurd h (by decide)) (fun _ => ?_)
  refine j_iloadn (k := 1) (D_Text_init 33 rfl) rfl rfl ?_
  refine j_bipush (v := 36) (D_Text_init 34 rfl) rfl ?_
  refine j_ic_gt (tgt := 101) (D_Text_init 35 rfl) rfl (wr_lit rfl) (wr_lit rfl) (fun h => absurd h (by decide)) (fun _ => ?_)
  refine j_ldcS (i := 0) rfl rfl (D_Text_init 36 rfl) ?_
  refine j_iloadn (k := 0) (D_Text_init 37 rfl) rfl rfl ?_
  refine j_cKi (As := [vi 87]) (c_String_charAt (i := 0) (x := 87) (by decide) (wr_lit rfl) (by decide) (by decide)) rfl lk_Text_40 mok_String_charAt (by decide) (by decide) rfl rfl (Nat.le_of_ble_eq_true rfl) (D_Text_init 38 rfl) (fun _ => ?_) (by decide)
  refine j_top0 (x' := 111) (by decide +kernel) ?_
  refine j_bipush (v := 32) (D_Text_init 39 rfl) rfl ?_
  refine j_ic_ne (tgt := 95) (D_Text_init 40 rfl) rfl (wr_lit rfl) (wr_lit rfl) (fun _ => ?_) (fun h => absurd h (by decide))
  refine j_iinc (k := 0) (x' := 88) (L' := [(2, vi 88), (1, vi 14), (0, rf X 15)]) (D_Text_init 49 rfl) rfl (by decide +kernel) (by decide) rfl ?_
  refine j_goto (tgt := 57) (D_Text_init 50 rfl) rfl ?_
  refine j_iloadn (k := 0) (D_Text_init 29 rfl) rfl rfl ?_
  refine j_ldcS (i := 0) rfl rfl (D_Text_init 30 rfl) ?_
  refine j_cKi (As := []) (c_String_length (i := 0) (by decide)) rfl lk_Text_34 mok_String_length (by decide) (by decide) rfl rfl (Nat.le_of_ble_eq_true rfl) (D_Text_init 31 rfl) (fun _ => ?_) (by decide)
  refine j_top0 (x' := 199) (by decide +kernel) ?_
  refine j_ic_ge (tgt := 101) (D_Text_init 32 rfl) rfl (wr_lit rfl) (wr_lit rfl) (fun h => absurd h (by decide)) (fun _ => ?_)
  refine j_iloadn (k := 1) (D_Text_init 33 rfl) rfl rfl ?_
  refine j_bipush (v := 36) (D_Text_init 34 rfl) rfl ?_
  refine j_ic_gt (tgt := 101) (D_Text_init 35 rfl) rfl (wr_lit rfl) (wr_lit rfl) (fun h => absurd h (by decide)) (fun _ => ?_)
  refine j_ldcS (i := 0) rfl rfl (D_Text_init 36 rfl) ?_
  refine j_iloadn (k := 0) (D_Text_init 37 rfl) rfl rfl ?_
  refine j_cKi (As := [vi 88]) (c_String_charAt (i := 0) (x := 88) (by decide) (wr_lit rfl) (by decide) (by decide)) rfl lk_Text_40 mok_String_charAt (by decide) (by decide) rfl rfl (Nat.le_of_ble_eq_true rfl) (D_Text_init 38 rfl) (fun _ => ?_) (by decide)
  refine j_top0 (x' := 114) (by decide +kernel) ?_
  refine j_bipush (v := 32) (D_Text_init 39 rfl) rfl ?_
  refine j_ic_ne (tgt := 95) (D_Text_init 40 rfl) rfl (wr_lit rfl) (wr_lit rfl) (fun _ => ?_) (fun h => absurd h (by decide))
  refine j_iinc (k := 0) (x' := 89) (L' := [(2, vi 89), (1, vi 14), (0, rf X 15)]) (D_Text_init 49 rfl) rfl (by decide +kernel) (by decide) rfl ?_
  refine j_goto (tgt := 57) (D_Text_init 50 rfl) rfl ?_
  refine j_iloadn (k := 0) (D_Text_init 29 rfl) rfl rfl ?_
  refine j_ldcS (i := 0) rfl rfl (D_Text_init 30 rfl) ?_
  refine j_cKi (As := []) (c_String_length (i := 0) (by decide)) rfl lk_Text_34 mok_String_length (by decide) (by decide) rfl rfl (Nat.le_of_ble_eq_true rfl) (D_Text_init 31 rfl) (fun _ => ?_) (by decide)
  refine j_top0 (x' := 199) (by decide +kernel) ?_
  refine j_ic_ge (tgt := 101) (D_Text_init 32 rfl) rfl (wr_lit rfl) (wr_lit rfl) (fun h => absurd h (by decide)) (fun _ => ?_)
  refine j_iloadn (k := 1) (D_Text_init 33 rfl) rfl rfl ?_
  refine j_bipush (v := 36) (D_Text_init 34 rfl) rfl ?_
  refine j_ic_gt (tgt := 101) (D_Text_init 35 rfl) rfl (wr_lit rfl) (wr_lit rfl) (fun h => absurd h (by decide)) (fun _ => ?_)
  refine j_ldcS (i := 0) rfl rfl (D_Text_init 36 rfl) ?_
  refine j_iloadn (k := 0) (D_Text_init 37 rfl) rfl rfl ?_
  refine j_cKi (As := [vi 89]) (c_String_charAt (i := 0) (x := 89) (by decide) (wr_lit rfl) (by decide) (by decide)) rfl lk_Text_40 mok_String_charAt (by decide) (by decide) rfl rfl (Nat.le_of_ble_eq_true rfl) (D_Text_init 38 rfl) (fun _ => ?_) (by decide)
  refine j_top0 (x' := 100) (by decide +kernel) ?_
  refine j_bipush (v := 32) (D_Text_init 39 rfl) rfl ?_
  refine j_ic_ne (tgt := 95) (D_Text_init 40 rfl) rfl (wr_lit rfl) (wr_lit rfl) (fun _ => ?_) (fun h => absurd h (by decide))
  refine j_iinc (k := 0) (x' := 90) (L' := [(2, vi 90), (1, vi 14), (0, rf X 15)]) (D_Text_init 49 rfl) rfl (by decide +kernel) (by decide) rfl ?_
  refine j_goto (tgt := 57) (D_Text_init 50 rfl) rfl ?_
  refine j_iloadn (k := 0) (D_Text_init 29 rfl) rfl rfl ?_
  refine j_ldcS (i := 0) rfl rfl (D_Text_init 30 rfl) ?_
  refine j_cKi (As := []) (c_String_length (i := 0) (by decide)) rfl lk_Text_34 mok_String_length (by decide) (by decide) rfl rfl (Nat.le_of_ble_eq_true rfl) (D_Text_init 31 rfl) (fun _ => ?_) (by decide)
  refine j_top0 (x' := 199) (by decide +kernel) ?_
  refine j_ic_ge (tgt := 101) (D_Text_init 32 rfl) rfl (wr_lit rfl) (wr_lit rfl) (fun h => absurd h (by decide)) (fun _ => ?_)
  refine j_iloadn (k := 1) (D_Text_init 33 rfl) rfl rfl ?_
  refine j_bipush (v := 36) (D_Text_init 34 rfl) rfl ?_
  refine j_ic_gt (tgt := 101) (D_Text_init 35 rfl) rfl (wr_lit rfl) (wr_lit rfl) (fun h => absurd h (by decide)) (fun _ => ?_)
  refine j_ldcS (i := 0) rfl rfl (D_Text_init 36 rfl) ?_
  refine j_iloadn (k := 0) (D_Text_init 37 rfl) rfl rfl ?_
  refine j_cKi (As := [vi 90]) (c_String_charAt (i := 0) (x := 90) (by decide) (wr_lit rfl) (by decide) (by decide)) rfl lk_Text_40 mok_String_charAt (by decide) (by decide) rfl rfl (Nat.le_of_ble_eq_true rfl) (D_Text_init 38 rfl) (fun _ => ?_) (by decide)
  refine j_top0 (x' := 32) (by decide +kernel) ?_
  refine j_bipush (v := 32) (D_Text_init 39 rfl) rfl ?_
  refine j_ic_ne (tgt := 95) (D_Text_init 40 rfl) rfl (wr_lit rfl) (wr_lit rfl) (fun h => absurd rfl h) (fun _ => ?_)
  refine j_aloadn (k := 2) (D_Text_init 41 rfl) rfl rfl ?_
  refine j_getR (t := 17) rfl fa_Text_15 kd_15 (by decide) (by decide) rfl (fun _ => by decide +kernel) (by decide) (D_Text_init 42 rfl) ?_
  refine j_iloadn (k := 1) (D_Text_init 43 rfl) rfl rfl ?_
  refine j_iloadn (k := 0) (D_Text_init 44 rfl) rfl rfl ?_
  refine j_iconst (v := 1) (D_Text_init 45 rfl) rfl ?_
  refine j_iadd (D_Text_init 46 rfl) ?_
  refine j_top0 (x' := 91) (by decide +kernel) ?_
  refine j_iast (NI := 37) (D_Text_init 47 rfl) kd_17 (by decide) (wr_lit rfl) rfl (by decide) (by decide) ?_
  refine j_iinc (k := 1) (x' := 15) (L' := [(1, vi 15), (2, vi 90), (0, rf X 15)]) (D_Text_init 48 rfl) rfl (by decide +kernel) (by decide) rfl ?_
  refine j_iinc (k := 1) (x' := 91) (L' := [(2, vi 91), (1, vi 15), (0, rf X 15)]) (D_Text_init 49 rfl) rfl (by decide +kernel) (by decide) rfl ?_
  refine j_goto (tgt := 57) (D_Text_init 50 rfl) rfl ?_
  refine j_iloadn (k := 0) (D_Text_init 29 rfl) rfl rfl ?_
  refine j_ldcS (i := 0) rfl rfl (D_Text_init 30 rfl) ?_
  refine j_cKi (As := []) (c_String_length (i := 0) (by decide)) rfl lk_Text_34 mok_String_length (by decide) (by decide) rfl rfl (Nat.le_of_ble_eq_true rfl) (D_Text_init 31 rfl) (fun _ => ?_) (by decide)
  refine j_top0 (x' := 199) (by decide +kernel) ?_
  refine j_ic_ge (tgt := 101) (D_Text_init 32 rfl) rfl (wr_lit rfl) (wr_lit rfl) (fun h => absurd h (by decide)) (fun _ => ?_)
  refine j_iloadn (k := 1) (D_Text_init 33 rfl) rfl rfl ?_
  refine j_bipush (v := 36) (D_Text_init 34 rfl) rfl ?_
  refine j_ic_gt (tgt := 101) (D_Text_init 35 rfl) rfl (wr_lit rfl) (wr_lit rfl) (fun h => absurd h (by decide)) (fun _ => ?_)
  refine j_ldcS (i := 0) rfl rfl (D_Text_init 36 rfl) ?_
  refine j_iloadn (k := 0) (D_Text_init 37 rfl) rfl rfl ?_
  refine j_cKi (As := [vi 91]) (c_String_charAt (i := 0) (x := 91) (by decide) (wr_lit rfl) (by decide) (by decide)) rfl lk_Text_40 mok_String_charAt (by decide) (by decide) rfl rfl (Nat.le_of_ble_eq_true rfl) (D_Text_init 38 rfl) (fun _ => ?_) (by decide)
  refine j_top0 (x' := 107) (by decide +kernel) ?_
  refine j_bipush (v := 32) (D_Text_init 39 rfl) rfl ?_
  refine j_ic_ne (tgt := 95) (D_Text_init 40 rfl) rfl (wr_lit rfl) (wr_lit rfl) (fun _ => ?_) (fun h => absurd h (by decide))
  refine j_iinc (k := 0) (x' := 92) (L' := [(2, vi 92), (1, vi 15), (0, rf X 15)]) (D_Text_init 49 rfl) rfl (by decide +kernel) (by decide) rfl ?_
  refine j_goto (tgt := 57) (D_Text_init 50 rfl) rfl ?_
  refine j_iloadn (k := 0) (D_Text_init 29 rfl) rfl rfl ?_
  refine j_ldcS (i := 0) rfl rfl (D_Text_init 30 rfl) ?_
  refine j_cKi (As := []) (c_String_length (i := 0) (by decide)) rfl lk_Text_34 mok_String_length (by decide) (by decide) rfl rfl (Nat.le_of_ble_eq_true rfl) (D_Text_init 31 rfl) (fun _ => ?_) (by decide)
  refine j_top0 (x' := 199) (by decide +kernel) ?_
  refine j_ic_ge (tgt := 101) (D_Text_init 32 rfl) rfl (wr_lit rfl) (wr_lit rfl) (fun h => absurd h (by decide)) (fun _ => ?_)
  refine j_iloadn (k := 1) (D_Text_init 33 rfl) rfl rfl ?_
  refine j_bipush (v := 36) (D_Text_init 34 rfl) rfl ?_
  refine j_ic_gt (tgt := 101) (D_Text_init 35 rfl) rfl (wr_lit rfl) (wr_lit rfl) (fun h => absurd h (by decide)) (fun _ => ?_)
  refine j_ldcS (i := 0) rfl rfl (D_Text_init 36 rfl) ?_
  refine j_iloadn (k := 0) (D_Text_init 37 rfl) rfl rfl ?_
  refine j_cKi (As := [vi 92]) (c_String_charAt (i := 0) (x := 92) (by decide) (wr_lit rfl) (by decide) (by decide)) rfl lk_Text_40 mok_String_charAt (by decide) (by decide) rfl rfl (Nat.le_of_ble_eq_true rfl) (D_Text_init 38 rfl) (fun _ => ?_) (by decide)
  refine j_top0 (x' := 105) (by decide +kernel) ?_
  refine j_bipush (v := 32) (D_Text_init 39 rfl) rfl ?_
  refine j_ic_ne (tgt := 95) (D_Text_init 40 rfl) rfl (wr_lit rfl) (wr_lit rfl) (fun _ => ?_) (fun h => absurd h (by decide))
  refine j_iinc (k := 0) (x' := 93) (L' := [(2, vi 93), (1, vi 15), (0, rf X 15)]) (D_Text_init 49 rfl) rfl (by decide +kernel) (by decide) rfl ?_
  refine j_goto (tgt := 57) (D_Text_init 50 rfl) rfl ?_
  refine j_iloadn (k := 0) (D_Text_init 29 rfl) rfl rfl ?_
  refine j_ldcS (i := 0) rfl rfl (D_Text_init 30 rfl) ?_
  refine j_cKi (As := []) (c_String_length (i := 0) (by decide)) rfl lk_Text_34 mok_String_length (by decide) (by decide) rfl rfl (Nat.le_of_ble_eq_true rfl) (D_Text_init 31 rfl) (fun _ => ?_) (by decide)
  refine j_top0 (x' := 199) (by decide +kernel) ?_
  refine j_ic_ge (tgt := 101) (D_Text_init 32 rfl) rfl (wr_lit rfl) (wr_lit rfl) (fun h => absurd h (by decide)) (fun _ => ?_)
  refine j_iloadn (k := 1) (D_Text_init 33 rfl) rfl rfl ?_
  refine j_bipush (v := 36) (D_Text_init 34 rfl) rfl ?_
  refine j_ic_gt (tgt := 101) (D_Text_init 35 rfl) rfl (wr_lit rfl) (wr_lit rfl) (fun h => absurd h (by decide)) (fun _ => ?_)
  refine j_ldcS (i := 0) rfl rfl (D_Text_init 36 rfl) ?_
  refine j_iloadn (k := 0) (D_Text_init 37 rfl) rfl rfl ?_
  refine j_cKi (As := [vi 93]) (c_String_charAt (i := 0) (x := 93) (by decide) (wr_lit rfl) (by decide) (by decide)) rfl lk_Text_40 mok_String_charAt (by decide) (by decide) rfl rfl (Nat.le_of_ble_eq_true rfl) (D_Text_init 38 rfl) (fun _ => ?_) (by decide)
  refine j_top0 (x' := 110) (by decide +kernel) ?_
  refine j_bipush (v := 32) (D_Text_init 39 rfl) rfl ?_
  refine j_ic_ne (tgt := 95) (D_Text_init 40 rfl) rfl (wr_lit rfl) (wr_lit rfl) (fun _ => ?_) (fun h => absurd h (by decide))
  refine j_iinc (k := 0) (x' := 94) (L' := [(2, vi 94), (1, vi 15), (0, rf X 15)]) (D_Text_init 49 rfl) rfl (by decide +kernel) (by decide) rfl ?_
  refine j_goto (tgt := 57) (D_Text_init 50 rfl) rfl ?_
  refine j_iloadn (k := 0) (D_Text_init 29 rfl) rfl rfl ?_
  refine j_ldcS (i := 0) rfl rfl (D_Text_init 30 rfl) ?_
  refine j_cKi (As := []) (c_String_length (i := 0) (by decide)) rfl lk_Text_34 mok_String_length (by decide) (by decide) rfl rfl (Nat.le_of_ble_eq_true rfl) (D_Text_init 31 rfl) (fun _ => ?_) (by decide)
  refine j_top0 (x' := 199) (by decide +kernel) ?_
  refine j_ic_ge (tgt := 101) (D_Text_init 32 rfl) rfl (wr_lit rfl) (wr_lit rfl) (fun h => absurd h (by decide)) (fun _ => ?_)
  refine j_iloadn (k := 1) (D_Text_init 33 rfl) rfl rfl ?_
  refine j_bipush (v := 36) (D_Text_init 34 rfl) rfl ?_
  refine j_ic_gt (tgt := 101) (D_Text_init 35 rfl) rfl (wr_lit rfl) (wr_lit rfl) (fun h => absurd h (by decide)) (fun _ => ?_)
  refine j_ldcS (i := 0) rfl rfl (D_Text_init 36 rfl) ?_
  refine j_iloadn (k := 0) (D_Text_init 37 rfl) rfl rfl ?_
  refine j_cKi (As := [vi 94]) (c_String_charAt (i := 0) (x := 94) (by decide) (wr_lit rfl) (by decide) (by decide)) rfl lk_Text_40 mok_String_charAt (by decide) (by decide) rfl rfl (Nat.le_of_ble_eq_true rfl) (D_Text_init 38 rfl) (fun _ => ?_) (by decide)
  refine j_top0 (x' := 103) (by decide +kernel) ?_
  refine j_bipush (v := 32) (D_Text_init 39 rfl) rfl ?_
  refine j_ic_ne (tgt := 95) (D_Text_init 40 rfl) rfl (wr_lit rfl) (wr_lit rfl) (fun _ => ?_) (fun h => absurd h (by decide))
  refine j_iinc (k := 0) (x' := 95) (L' := [(2, vi 95), (1, vi 15), (0, rf X 15)]) (D_Text_init 49 rfl) rfl (by decide +kernel) (by decide) rfl ?_
  refine j_goto (tgt := 57) (D_Text_init 50 rfl) rfl ?_
  refine j_iloadn (k := 0) (D_Text_init 29 rfl) rfl rfl ?_
  refine j_ldcS (i := 0) rfl rfl (D_Text_init 30 rfl) ?_
  refine j_cKi (As := []) (c_String_length (i := 0) (by decide)) rfl lk_Text_34 mok_String_length (by decide) (by decide) rfl rfl (Nat.le_of_ble_eq_true rfl) (D_Text_init 31 rfl) (fun _ => ?_) (by decide)
  refine j_top0 (x' := 199) (by decide +kernel) ?_
  refine j_ic_ge (tgt := 101) (D_Text_init 32 rfl) rfl (wr_lit rfl) (wr_lit rfl) (fun h => absurd h (by decide)) (fun _ => ?_)
  refine j_iloadn (k := 1) (D_Text_init 33 rfl) rfl rfl ?_
  refine j_bipush (v := 36) (D_Text_init 34 rfl) rfl ?_
  refine j_ic_gt (tgt := 101) (D_Text_init 35 rfl) rfl (wr_lit rfl) (wr_lit rfl) (fun h => absurd h (by decide)) (fun _ => ?_)
  refine j_ldcS (i := 0) rfl rfl (D_Text_init 36 rfl) ?_
  refine j_iloadn (k := 0) (D_Text_init 37 rfl) rfl rfl ?_
  refine j_cKi (As := [vi 95]) (c_String_charAt (i := 0) (x := 95) (by decide) (wr_lit rfl) (by decide) (by decide)) rfl lk_Text_40 mok_String_charAt (by decide) (by decide) rfl rfl (Nat.le_of_ble_eq_true rfl) (D_Text_init 38 rfl) (fun _ => ?_) (by decide)
  refine j_top0 (x' := 32) (by decide +kernel) ?_
  refine j_bipush (v := 32) (D_Text_init 39 rfl) rfl ?_
  refine j_ic_ne (tgt := 95) (D_Text_init 40 rfl) rfl (wr_lit rfl) (wr_lit rfl) (fun h => absurd rfl h) (fun _ => ?_)
  refine j_aloadn (k := 2) (D_Text_init 41 rfl) rfl rfl ?_
  refine j_getR (t := 17) rfl fa_Text_15 kd_15 (by decide) (by decide) rfl (fun _ => by decide +kernel) (by decide) (D_Text_init 42 rfl) ?_
  refine j_iloadn (k := 1) (D_Text_init 43 rfl) rfl rfl ?_
  refine j_iloadn (k := 0) (D_Text_init 44 rfl) rfl rfl ?_
  refine j_iconst (v := 1) (D_Text_init 45 rfl) rfl ?_
  refine j_iadd (D_Text_init 46 rfl) ?_
  refine j_top0 (x' := 96) (by decide +kernel) ?_
  refine j_iast (NI := 37) (D_Text_init 47 rfl) kd_17 (by decide) (wr_lit rfl) rfl (by decide) (by decide) ?_
  refine j_iinc (k := 1) (x' := 16) (L' := [(1, vi 16), (2, vi 95), (0, rf X 15)]) (D_Text_init 48 rfl) rfl (by decide +kernel) (by decide) rfl ?_
  refine j_iinc (k := 1) (x' := 96) (L' := [(2, vi 96), (1, vi 16), (0, rf X 15)]) (D_Text_init 49 rfl) rfl (by decide +kernel) (by decide) rfl ?_
  refine j_goto (tgt := 57) (D_Text_init 50 rfl) rfl ?_
  refine j_iloadn (k := 0) (D_Text_init 29 rfl) rfl rfl ?_
  refine j_ldcS (i := 0) rfl rfl (D_Text_init 30 rfl) ?_
  refine j_cKi (As := []) (c_String_length (i := 0) (by decide)) rfl lk_Text_34 mok_String_length (by decide) (by decide) rfl rfl (Nat.le_of_ble_eq_true rfl) (D_Text_init 31 rfl) (fun _ => ?_) (by decide)
  refine j_top0 (x' := 199) (by decide +kernel) ?_
  refine j_ic_ge (tgt := 101) (D_Text_init 32 rfl) rfl (wr_lit rfl) (wr_lit rfl) (fun h => absurd h (by decide)) (fun _ => ?_)
  refine j_iloadn (k := 1) (D_Text_init 33 rfl) rfl rfl ?_
  refine j_bipush (v := 36) (D_Text_init 34 rfl) rfl ?_
  refine j_ic_gt (tgt := 101) (D_Text_init 35 rfl) rfl (wr_lit rfl) (wr_lit rfl) (fun h => absurd h (by decide)) (fun _ => ?_)
  refine j_ldcS (i := 0) rfl rfl (D_Text_init 36 rfl) ?_
  refine j_iloadn (k := 0) (D_Text_init 37 rfl) rfl rfl ?_
  refine j_cKi (As := [vi 96]) (c_String_charAt (i := 0) (x := 96) (by decide) (wr_lit rfl) (by decide) (by decide)) rfl lk_Text_40 mok_String_charAt (by decide) (by decide) rfl rfl (Nat.le_of_ble_eq_true rfl) (D_Text_init 38 rfl) (fun _ => ?_) (by decide)
  refine j_top0 (x' := 107) (by decide +kernel) ?_
  refine j_bipush (v := 32) (D_Text_init 39 rfl) rfl ?_
  refine j_ic_ne (tgt := 95) (D_Text_init 40 rfl) rfl (wr_lit rfl) (wr_lit rfl) (fun _ => ?_) (fun h => absurd h (by decide))
  refine j_iinc (k := 0) (x' := 97) (L' := [(2, vi 97), (1, vi 16), (0, rf X 15)]) (D_Text_init 49 rfl) rfl (by decide +kernel) (by decide) rfl ?_
  refine j_goto (tgt := 57) (D_Text_init 50 rfl) rfl ?_
  refine j_iloadn (k := 0) (D_Text_init 29 rfl) rfl rfl ?_
  refine j_ldcS (i := 0) rfl rfl (D_Text_init 30 rfl) ?_
  refine j_cKi (As := []) (c_String_length (i := 0) (by decide)) rfl lk_Text_34 mok_String_length (by decide) (by decide) rfl rfl (Nat.le_of_ble_eq_true rfl) (D_Text_init 31 rfl) (fun _ => ?_) (by decide)
  refine j_top0 (x' := 199) (by decide +kernel) ?_
  refine j_ic_ge (tgt := 101) (D_Text_init 32 rfl) rfl (wr_lit rfl) (wr_lit rfl) (fun h => absurd h (by decide)) (fun _ => ?_)
  refine j_iloadn (k := 1) (D_Text_init 33 rfl) rfl rfl ?_
  refine j_bipush (v := 36) (D_Text_init 34 rfl) rfl ?_
  refine j_ic_gt (tgt := 101) (D_Text_init 35 rfl) rfl (wr_lit rfl) (wr_lit rfl) (fun h => absurd h (by decide)) (fun _ => ?_)
  refine j_ldcS (i := 0) rfl rfl (D_Text_init 36 rfl) ?_
  refine j_iloadn (k := 0) (D_Text_init 37 rfl) rfl rfl ?_
  refine j_cKi (As := [vi 97]) (c_String_charAt (i := 0) (x := 97) (by decide) (wr_lit rfl) (by decide) (by decide)) rfl lk_Text_40 mok_String_charAt (by decide) (by decide) rfl rfl (Nat.le_of_ble_eq_true rfl) (D_Text_init 38 rfl) (fun _ => ?_) (by decide)
  refine j_top0 (x' := 105) (by decide +kernel) ?_
  refine j_bipush (v := 32) (D_Text_init 39 rfl) rfl ?_
  refine j_ic_ne (tgt := 95) (D_Text_init 40 rfl) rfl (wr_lit rfl) (wr_lit rfl) (fun _ => ?_) (fun h => absurd h (by decide))
  refine j_iinc (k := 0) (x' := 98) (L' := [(2, vi 98), (1, vi 16), (0, rf X 15)]) (D_Text_init 49 rfl) rfl (by decide +kernel) (by decide) rfl ?_
  refine j_goto (tgt := 57) (D_Text_init 50 rfl) rfl ?_
  refine j_iloadn (k := 0) (D_Text_init 29 rfl) rfl rfl ?_
  refine j_ldcS (i := 0) rfl rfl (D_Text_init 30 rfl) ?_
  refine j_cKi (As := []) (c_String_length (i := 0) (by decide)) rfl lk_Text_34 mok_String_length (by decide) (by decide) rfl rfl (Nat.le_of_ble_eq_true rfl) (D_Text_init 31 rfl) (fun _ => ?_) (by decide)
  refine j_top0 (x' := 199) (by decide +kernel) ?_
  refine j_ic_ge (tgt := 101) (D_Text_init 32 rfl) rfl (wr_lit rfl) (wr_lit rfl) (fun h => absurd h (by decide)) (fun _ => ?_)
  refine j_iloadn (k := 1) (D_Text_init 33 rfl) rfl rfl ?_
  refine j_bipush (v := 36) (D_Text_init 34 rfl) rfl ?_
  refine j_ic_gt (tgt := 101) (D_Text_init 35 rfl) rfl (wr_lit rfl) (wr_lit rfl) (fun h => absurd h (by decide)) (fun _ => ?_)
  refine j_ldcS (i := 0) rfl rfl (D_Text_init 36 rfl) ?_
  refine j_iloadn (k := 0) (D_Text_init 37 rfl) rfl rfl ?_
  refine j_cKi (As := [vi 98]) (c_String_charAt (i := 0) (x := 98) (by decide) (wr_lit rfl) (by decide) (by decide)) rfl lk_Text_40 mok_String_charAt (by decide) (by decide) rfl rfl (Nat.le_of_ble_eq_true rfl) (D_Text_init 38 rfl) (fun _ => ?_) (by decide)
  refine j_top0 (x' := 110) (by decide +kernel) ?_
  refine j_bipush (v := 32) (D_Text_init 39 rfl) rfl ?_
  refine j_ic_ne (tgt := 95) (D_Text_init 40 rfl) rfl (wr_lit rfl) (wr_lit rfl) (fun _ => ?_) (fun h => absurd h (by decide))
  refine j_iinc (k := 0) (x' := 99) (L' := [(2, vi 99), (1, vi 16), (0, rf X 15)]) (D_Text_init 49 rfl) rfl (by decide +kernel) (by decide) rfl ?_
  refine j_goto (tgt := 57) (D_Text_init 50 rfl) rfl ?_
  refine j_iloadn (k := 0) (D_Text_init 29 rfl) rfl rfl ?_
  refine j_ldcS (i := 0) rfl rfl (D_Text_init 30 rfl) ?_
  refine j_cKi (As := []) (c_String_length (i := 0) (by decide)) rfl lk_Text_34 mok_String_length (by decide) (by decide) rfl rfl (Nat.le_of_ble_eq_true rfl) (D_Text_init 31 rfl) (fun _ => ?_) (by decide)
  refine j_top0 (x' := 199) (by decide +kernel) ?_
  refine j_ic_ge (tgt := 101) (D_Text_init 32 rfl) rfl (wr_lit rfl) (wr_lit rfl) (fun h => absurd h (by decide)) (fun _ => ?_)
  refine j_iloadn (k := 1) (D_Text_init 33 rfl) rfl rfl ?_
  refine j_bipush (v := 36) (D_Text_init 34 rfl) rfl ?_
  refine j_ic_gt (tgt := 101) (D_Text_init 35 rfl) rfl (wr_lit rfl) (wr_lit rfl) (fun h => absurd h (by decide)) (fun _ => ?_)
  refine j_ldcS (i := 0) rfl rfl (D_Text_init 36 rfl) ?_
  refine j_iloadn (k := 0) (D_Text_init 37 rfl) rfl rfl ?_
  refine j_cKi (As := [vi 99]) (c_String_charAt (i := 0) (x := 99) (by decide) (wr_lit rfl) (by decide) (by decide)) rfl lk_Text_40 mok_String_charAt (by decide) (by decide) rfl rfl (Nat.le_of_ble_eq_true rfl) (D_Text_init 38 rfl) (fun _ => ?_) (by decide)
  refine j_top0 (x' := 32) (by decide +kernel) ?_
  refine j_bipush (v := 32) (D_Text_init 39 rfl) rfl ?_
  refine j_ic_ne (tgt := 95) (D_Text_init 40 rfl) rfl (wr_lit rfl) (wr_lit rfl) (fun h => absurd rfl h) (fun _ => ?_)
  refine j_aloadn (k := 2) (D_Text_init 41 rfl) rfl rfl ?_
  refine j_getR (t := 17) rfl fa_Text_15 kd_15 (by decide) (by decide) rfl (fun _ => by decide +kernel) (by decide) (D_Text_init 42 rfl) ?_
  refine j_iloadn (k := 1) (D_Text_init 43 rfl) rfl rfl ?_
  refine j_iloadn (k := 0) (D_Text_init 44 rfl) rfl rfl ?_
  refine j_iconst (v := 1) (D_Text_init 45 rfl) rfl ?_
  refine j_iadd (D_Text_init 46 rfl) ?_
  refine j_top0 (x' := 100) (by decide +kernel) ?_
  refine j_iast (NI := 37) (D_Text_init 47 rfl) kd_17 (by decide) (wr_lit rfl) rfl (by decide) (by decide) ?_
  refine j_iinc (k := 1) (x' := 17) (L' := [(1, vi 17), (2, vi 99), (0, rf X 15)]) (D_Text_init 48 rfl) rfl (by decide +kernel) (by decide) rfl ?_
  refine j_iinc (k := 1) (x' := 100) (L' := [(2, vi 100), (1, vi 17), (0, rf X 15)]) (D_Text_init 49 rfl) rfl (by decide +kernel) (by decide) rfl ?_
  refine j_goto (tgt := 57) (D_Text_init 50 rfl) rfl ?_
  refine j_iloadn (k := 0) (D_Text_init 29 rfl) rfl rfl ?_
  refine j_ldcS (i := 0) rfl rfl (D_Text_init 30 rfl) ?_
  refine j_cKi (As := []) (c_String_length (i := 0) (by decide)) rfl lk_Text_34 mok_String_length (by decide) (by decide) rfl rfl (Nat.le_of_ble_eq_true rfl) (D_Text_init 31 rfl) (fun _ => ?_) (by decide)
  refine j_top0 (x' := 199) (by decide +kernel) ?_
  refine j_ic_ge (tgt := 101) (D_Text_init 32 rfl) rfl (wr_lit rfl) (wr_lit rfl) (fun h => absurd h (by decide)) (fun _ => ?_)
  refine j_iloadn (k := 1) (D_Text_init 33 rfl) rfl rfl ?_
  refine j_bipush (v := 36) (D_Text_init 34 rfl) rfl ?_
  refine j_ic_gt (tgt := 101) (D_Text_init 35 rfl) rfl (wr_lit rfl) (wr_lit rfl) (fun h => absurd h (by decide)) (fun _ => ?_)
  refine j_ldcS (i := 0) rfl rfl (D_Text_init 36 rfl) ?_
  refine j_iloadn (k := 0) (D_Text_init 37 rfl) rfl rfl ?_
  refine j_cKi (As := [vi 100]) (c_String_charAt (i := 0) (x := 100) (by decide) (wr_lit rfl) (by decide) (by decide)) rfl lk_Text_40 mok_String_charAt (by decide) (by decide) rfl rfl (Nat.le_of_ble_eq_true rfl) (D_Text_init 38 rfl) (fun _ => ?_) (by decide)
  refine j_top0 (x' := 119) (by decide +kernel) ?_
  refine j_bipush (v := 32) (D_Text_init 39 rfl) rfl ?_
  refine j_ic_ne (tgt := 95) (D_Text_init 40 rfl) rfl (wr_lit rfl) (wr_lit rfl) (fun _ => ?_) (fun h => absurd h (by decide))
  refine j_iinc (k := 0) (x' := 101) (L' := [(2, vi 101), (1, vi 17), (0, rf X 15)]) (D_Text_init 49 rfl) rfl (by decide +kernel) (by decide) rfl ?_
  refine j_goto (tgt := 57) (D_Text_init 50 rfl) rfl ?_
  refine j_iloadn (k := 0) (D_Text_init 29 rfl) rfl rfl ?_
  refine j_ldcS (i := 0) rfl rfl (D_Text_init 30 rfl) ?_
  refine j_cKi (As := []) (c_String_length (i := 0) (by decide)) rfl lk_Text_34 mok_String_length (by decide) (by decide) rfl rfl (Nat.le_of_ble_eq_true rfl) (D_Text_init 31 rfl) (fun _ => ?_) (by decide)
  refine j_top0 (x' := 199) (by decide +kernel) ?_
  refine j_ic_ge (tgt := 101) (D_Text_init 32 rfl) rfl (wr_lit rfl) (wr_lit rfl) (fun h => absurd h (by decide)) (fun _ => ?_)
  refine j_iloadn (k := 1) (D_Text_init 33 rfl) rfl rfl ?_
  refine j_bipush (v := 36) (D_Text_init 34 rfl) rfl ?_
  refine j_ic_gt (tgt := 101) (D_Text_init 35 rfl) rfl (wr_lit rfl) (wr_lit rfl) (fun h => absurd h (by decide)) (fun _ => ?_)
  refine j_ldcS (i := 0) rfl rfl (D_Text_init 36 rfl) ?_
  refine j_iloadn (k := 0) (D_Text_init 37 rfl) rfl rfl ?_
  refine j_cKi (As := [vi 101]) (c_String_charAt (i := 0) (x := 101) (by decide) (wr_lit rfl) (by decide) (by decide)) rfl lk_Text_40 mok_String_charAt (by decide) (by decide) rfl rfl (Nat.le_of_ble_eq_true rfl) (D_Text_init 38 rfl) (fun _ => ?_) (by decide)
  refine j_top0 (x' := 97) (by decide +kernel) ?_
  refine j_bipush (v := 32) (D_Text_init 39 rfl) rfl ?_
  refine j_ic_ne (tgt := 95) (D_Text_init 40 rfl) rfl (wr_lit rfl) (wr_lit rfl) (fun _ => ?_) (fun h => absurd h (by decide))
  refine j_iinc (k := 0) (x' := 102) (L' := [(2, vi 102), (1, vi 17), (0, rf X 15)]) (D_Text_init 49 rfl) rfl (by decide +kernel) (by decide) rfl ?_
  refine j_goto (tgt := 57) (D_Text_init 50 rfl) rfl ?_
  refine j_iloadn (k := 0) (D_Text_init 29 rfl) rfl rfl ?_
  refine j_ldcS (i := 0) rfl rfl (D_Text_init 30 rfl) ?_
  refine j_cKi (As := []) (c_String_length (i := 0) (by decide)) rfl lk_Text_34 mok_String_length (by decide) (by decide) rfl rfl (Nat.le_of_ble_eq_true rfl) (D_Text_init 31 rfl) (fun _ => ?_) (by decide)
  refine j_top0 (x' := 199) (by decide +kernel) ?_
  refine j_ic_ge (tgt := 101) (D_Text_init 32 rfl) rfl (wr_lit rfl) (wr_lit rfl) (fun h => absurd h (by decide)) (fun _ => ?_)
  refine j_iloadn (k := 1) (D_Text_init 33 rfl) rfl rfl ?_
  refine j_bipush (v := 36) (D_Text_init 34 rfl) rfl ?_
  refine j_ic_gt (tgt := 101) (D_Text_init 35 rfl) rfl (wr_lit rfl) (wr_lit rfl) (fun h => absurd h (by decide)) (fun _ => ?_)
  refine j_ldcS (i := 0) rfl rfl (D_Text_init 36 rfl) ?_
  refine j_iloadn (k := 0) (D_Text_init 37 rfl) rfl rfl ?_
  refine j_cKi (As := [vi 102]) (c_String_charAt (i := 0) (x := 102) (by decide) (wr_lit rfl) (by decide) (by decide)) rfl lk_Text_40 mok_String_charAt (by decide) (by decide) rfl rfl (Nat.le_of_ble_eq_true rfl) (D_Text_init 38 rfl) (fun _ => ?_) (by decide)
  refine j_top0 (x' := 114) (by decide +kernel) ?_
  refine j_bipush (v := 32) (D_Text_init 39 rfl) rfl ?_
  refine j_ic_ne (tgt := 95) (D_Text_init 40 rfl) rfl (wr_lit rfl) (wr_lit rfl) (fun _ => ?_) (fun h => absurd h (by decide))
  refine j_iinc (k := 0) (x' := 103) (L' := [(2, vi 103), (1, vi 17), (0, rf X 15)]) (D_Text_init 49 rfl) rfl (by decide +kernel) (by decide) rfl ?_
  refine j_goto (tgt := 57) (D_Text_init 50 rfl) rfl ?_
  refine j_iloadn (k := 0) (D_Text_init 29 rfl) rfl rfl ?_
  refine j_ldcS (i := 0) rfl rfl (D_Text_init 30 rfl) ?_
  refine j_cKi (As := []) (c_String_length (i := 0) (by decide)) rfl lk_Text_34 mok_String_length (by decide) (by decide) rfl rfl (Nat.le_of_ble_eq_true rfl) (D_Text_init 31 rfl) (fun _ => ?_) (by decide)
  refine j_top0 (x' := 199) (by decide +kernel) ?_
  refine j_ic_ge (tgt := 101) (D_Text_init 32 rfl) rfl (wr_lit rfl) (wr_lit rfl) (fun h => absurd h (by decide)) (fun _ => ?_)
  refine j_iloadn (k := 1) (D_Text_init 33 rfl) rfl rfl ?_
  refine j_bipush (v := 36) (D_Text_init 34 rfl) rfl ?_
  refine j_ic_gt (tgt := 101) (D_Text_init 35 rfl) rfl (wr_lit rfl) (wr_lit rfl) (fun h => absurd h (by decide)) (fun _ => ?_)
  refine j_ldcS (i := 0) rfl rfl (D_Text_init 36 rfl) ?_
  refine j_iloadn (k := 0) (D_Text_init 37 rfl) rfl rfl ?_
  refine j_cKi (As := [vi 103]) (c_String_charAt (i := 0) (x := 103) (by decide) (wr_lit rfl) (by decide) (by decide)) rfl lk_Text_40 mok_String_charAt (by decide) (by decide) rfl rfl (Nat.le_of_ble_eq_true rfl) (D_Text_init 38 rfl) (fun _ => ?_) (by decide)
  refine j_top0 (x' := 100) (by decide +kernel) ?_
  refine j_bipush (v := 32) (D_Text_init 39 rfl) rfl ?_
  refine j_ic_ne (tgt := 95) (D_Text_init 40 rfl) rfl (wr_lit rfl) (wr_lit rfl) (fun _ => ?_) (fun h => absurd h (by decide))
  refine j_iinc (k := 0) (x' := 104) (L' := [(2, vi 104), (1, vi 17), (0, rf X 15)]) (D_Text_init 49 rfl) rfl (by decide +kernel) (by decide) rfl ?_
  refine j_goto (tgt := 57) (D_Text_init 50 rfl) rfl ?_
  refine j_iloadn (k := 0) (D_Text_init 29 rfl) rfl rfl ?_
  refine j_ldcS (i := 0) rfl rfl (D_Text_init 30 rfl) ?_
  refine j_cKi (As := []) (c_String_length (i := 0) (by decide)) rfl lk_Text_34 mok_String_length (by decide) (by decide) rfl rfl (Nat.le_of_ble_eq_true rfl) (D_Text_init 31 rfl) (fun _ => ?_) (by decide)
  refine j_top0 (x' := 199) (by decide +kernel) ?_
  refine j_ic_ge (tgt := 101) (D_Text_init 32 rfl) rfl (wr_lit rfl) (wr_lit rfl) (fun h => absurd h (by decide)) (fun _ => ?_)
  refine j_iloadn (k := 1) (D_Text_init 33 rfl) rfl rfl ?_
  refine j_bipush (v := 36) (D_Text_init 34 rfl) rfl ?_
  refine j_ic_gt (tgt := 101) (D_Text_init 35 rfl) rfl (wr_lit rfl) (wr_lit rfl) (fun h => absurd h (by decide)) (fun _ => ?_)
  refine j_ldcS (i := 0) rfl rfl (D_Text_init 36 rfl) ?_
  refine j_iloadn (k := 0) (D_Text_init 37 rfl) rfl rfl ?_
  refine j_cKi (As := [vi 104]) (c_String_charAt (i := 0) (x := 104) (by decide) (wr_lit rfl) (by decide) (by decide)) rfl lk_Text_40 mok_String_charAt (by decide) (by decide) rfl rfl (Nat.le_of_ble_eq_true rfl) (D_Text_init 38 rfl) (fun _ => ?_) (by decide)
  refine j_top0 (x' := 32) (by decide +kernel) ?_
  refine j_bipush (v := 32) (D_Text_init 39 rfl) rfl ?_
  refine j_ic_ne (tgt := 95) (D_Text_init 40 rfl) rfl (wr_lit rfl) (wr_lit rfl) (fun h => absurd rfl h) (fun _ => ?_)
  refine j_aloadn (k := 2) (D_Text_init 41 rfl) rfl rfl ?_
  refine j_getR (t := 17) rfl fa_Text_15 kd_15 (by decide) (by decide) rfl (fun _ => by decide +kernel) (by decide) (D_Text_init 42 rfl) ?_
  refine j_iloadn (k := 1) (D_Text_init 43 rfl) rfl rfl ?_
  refine j_iloadn (k := 0) (D_Text_init 44 rfl) rfl rfl ?_
  refine j_iconst (v := 1) (D_Text_init 45 rfl) rfl ?_
  refine j_iadd (D_Text_init 46 rfl) ?_
  refine j_top0 (x' := 105) (by decide +kernel) ?_
  refine j_iast (NI := 37) (D_Text_init 47 rfl) kd_17 (by decide) (wr_lit rfl) rfl (by decide) (by decide) ?_
  refine j_iinc (k := 1) (x' := 18) (L' := [(1, vi 18), (2, vi 104), (0, rf X 15)]) (D_Text_init 48 rfl) rfl (by decide +kernel) (by decide) rfl ?_
  refine j_iinc (k := 1) (x' := 105) (L' := [(2, vi 105), (1, vi 18), (0, rf X 15)]) (D_Text_init 49 rfl) rfl (by decide +kernel) (by decide) rfl ?_
  refine j_goto (tgt := 57) (D_Text_init 50 rfl) rfl ?_
  refine j_iloadn (k := 0) (D_Text_init 29 rfl) rfl rfl ?_
  refine j_ldcS (i := 0) rfl rfl (D_Text_init 30 rfl) ?_
  refine j_cKi (As := []) (c_String_length (i := 0) (by decide)) rfl lk_Text_34 mok_String_length (by decide) (by decide) rfl rfl (Nat.le_of_ble_eq_true rfl) (D_Text_init 31 rfl) (fun _ => ?_) (by decide)
  refine j_top0 (x' := 199) (by decide +kernel) ?_
  refine j_ic_ge (tgt := 101) (D_Text_init 32 rfl) rfl (wr_lit rfl) (wr_lit rfl) (fun h => absurd h (by decide)) (fun _ => ?_)
  refine j_iloadn (k := 1) (D_Text_init 33 rfl) rfl rfl ?_
  refine j_bipush (v := 36) (D_Text_init 34 rfl) rfl ?_
  refine j_ic_gt (tgt := 101) (D_Text_init 35 rfl) rfl (wr_lit rfl) (wr_lit rfl) (fun h => absurd h (by decide)) (fun _ => ?_)
  refine j_ldcS (i := 0) rfl rfl (D_Text_init 36 rfl) ?_
  refine j_iloadn (k := 0) (D_Text_init 37 rfl) rfl rfl ?_
  refine j_cKi (As := [vi 105]) (c_String_charAt (i := 0) (x := 105) (by decide) (wr_lit rfl) (by decide) (by decide)) rfl lk_Text_40 mok_String_charAt (by decide) (by decide) rfl rfl (Nat.le_of_ble_eq_true rfl) (D_Text_init 38 rfl) (fun _ => ?_) (by decide)
  refine j_top0 (x' := 100) (by decide +kernel) ?_
  refine j_bipush (v := 32) (D_Text_init 39 rfl) rfl ?_
  refine j_ic_ne (tgt := 95) (D_Text_init 40 rfl) rfl (wr_lit rfl) (wr_lit rfl) (fun _ => ?_) (fun h => absurd h (by decide))
  refine j_iinc (k := 0) (x' := 106) (L' := [(2, vi 106), (1, vi 18), (0, rf X 15)]) (D_Text_init 49 rfl) rfl (by decide +kernel) (by decide) rfl ?_
  refine j_goto (tgt := 57) (D_Text_init 50 rfl) rfl ?_
  refine j_iloadn (k := 0) (D_Text_init 29 rfl) rfl rfl ?_
  refine j_ldcS (i := 0) rfl rfl (D_Text_init 30 rfl) ?_
  refine j_cKi (As := []) (c_String_length (i := 0) (by decide)) rfl lk_Text_34 mok_String_length (by decide) (by decide) rfl rfl (Nat.le_of_ble_eq_true rfl) (D_Text_init 31 rfl) (fun _ => ?_) (by decide)
  refine j_top0 (x' := 199) (by decide +kernel) ?_
  refine j_ic_ge (tgt := 101) (D_Text_init 32 rfl) rfl (wr_lit rfl) (wr_lit rfl) (fun h => absurd h (by decide)) (fun _ => ?_)
  refine j_iloadn (k := 1) (D_Text_init 33 rfl) rfl rfl ?_
  refine j_bipush (v := 36) (D_Text_init 34 rfl) rfl ?_
  refine j_ic_gt (tgt := 101) (D_Text_init 35 rfl) rfl (wr_lit rfl) (wr_lit rfl) (fun h => absurd h (by decide)) (fun _ => ?_)
  refine j_ldcS (i := 0) rfl rfl (D_Text_init 36 rfl) ?_
  refine j_iloadn (k := 0) (D_Text_init 37 rfl) rfl rfl ?_
  refine j_cKi (As := [vi 106]) (c_String_charAt (i := 0) (x := 106) (by decide) (wr_lit rfl) (by decide) (by decide)) rfl lk_Text_40 mok_String_charAt (by decide) (by decide) rfl rfl (Nat.le_of_ble_eq_true rfl) (D_Text_init 38 rfl) (fun _ => ?_) (by decide)
  refine j_top0 (x' := 111) (by decide +kernel) ?_
  refine j_bipush (v := 32) (D_Text_init 39 rfl) rfl ?_
  refine j_ic_ne (tgt := 95) (D_Text_init 40 rfl) rfl (wr_lit rfl) (wr_lit rfl) (fun _ => ?_) (fun h => absurd h (by decide))
  refine j_iinc (k := 0) (x' := 107) (L' := [(2, vi 107), (1, vi 18), (0, rf X 15)]) (D_Text_init 49 rfl) rfl (by decide +kernel) (by decide) rfl ?_
  refine j_goto (tgt := 57) (D_Text_init 50 rfl) rfl ?_
  refine j_iloadn (k := 0) (D_Text_init 29 rfl) rfl rfl ?_
  refine j_ldcS (i := 0) rfl rfl (D_Text_init 30 rfl) ?_
  refine j_cKi (As := []) (c_String_length (i := 0) (by decide)) rfl lk_Text_34 mok_String_length (by decide) (by decide) rfl rfl (Nat.le_of_ble_eq_true rfl) (D_Text_init 31 rfl) (fun _ => ?_) (by decide)
  refine j_top0 (x' := 199) (by decide +kernel) ?_
  refine j_ic_ge (tgt := 101) (D_Text_init 32 rfl) rfl (wr_lit rfl) (wr_lit rfl) (fun h => absurd h (by decide)) (fun _ => ?_)
  refine j_iloadn (k := 1) (D_Text_init 33 rfl) rfl rfl ?_
  refine j_bipush (v := 36) (D_Text_init 34 rfl) rfl ?_
  refine j_ic_gt (tgt := 101) (D_Text_init 35 rfl) rfl (wr_lit rfl) (wr_lit rfl) (fun h => absurd h (by decide)) (fun _ => ?_)
  refine j_ldcS (i := 0) rfl rfl (D_Text_init 36 rfl) ?_
  refine j_iloadn (k := 0) (D_Text_init 37 rfl) rfl rfl ?_
  refine j_cKi (As := [vi 107]) (c_String_charAt (i := 0) (x := 107) (by decide) (wr_lit rfl) (by decide) (by decide)) rfl lk_Text_40 mok_String_charAt (by decide) (by decide) rfl rfl (Nat.le_of_ble_eq_true rfl) (D_Text_init 38 rfl) (fun _ => ?_) (by decide)
  refine j_top0 (x' := 119) (by decide +kernel) ?_
  refine j_bipush (v := 32) (D_Text_init 39 rfl) rfl ?_
  refine j_ic_ne (tgt := 95) (D_Text_init 40 rfl) rfl (wr_lit rfl) (wr_lit rfl) (fun _ => ?_) (fun h => absurd h (by decide))
  refine j_iinc (k := 0) (x' := 108) (L' := [(2, vi 108), (1, vi 18), (0, rf X 15)]) (D_Text_init 49 rfl) rfl (by decide +kernel) (by decide) rfl ?_
  refine j_goto (tgt := 57) (D_Text_init 50 rfl) rfl ?_
  refine j_iloadn (k := 0) (D_Text_init 29 rfl) rfl rfl ?_
  refine j_ldcS (i := 0) rfl rfl (D_Text_init 30 rfl) ?_
  refine j_cKi (As := []) (c_String_length (i := 0) (by decide)) rfl lk_Text_34 mok_String_length (by decide) (by decide) rfl rfl (Nat.le_of_ble_eq_true rfl) (D_Text_init 31 rfl) (fun _ => ?_) (by decide)
  refine j_top0 (x' := 199) (by decide +kernel) ?_
  refine j_ic_ge (tgt := 101) (D_Text_init 32 rfl) rfl (wr_lit rfl) (wr_lit rfl) (fun h => absurd h (by decide)) (fun _ => ?_)
  refine j_iloadn (k := 1) (D_Text_init 33 rfl) rfl rfl ?_
  refine j_bipush (v := 36) (D_Text_init 34 rfl) rfl ?_
  refine j_ic_gt (tgt := 101) (D_Text_init 35 rfl) rfl (wr_lit rfl) (wr_lit rfl) (fun h => absurd h (by decide)) (fun _ => ?_)
  refine j_ldcS (i := 0) rfl rfl (D_Text_init 36 rfl) ?_
  refine j_iloadn (k := 0) (D_Text_init 37 rfl) rfl rfl ?_
  refine j_cKi (As := [vi 108]) (c_String_charAt (i := 0) (x := 108) (by decide) (wr_lit rfl) (by decide) (by decide)) rfl lk_Text_40 mok_String_charAt (by decide) (by decide) rfl rfl (Nat.le_of_ble_eq_true rfl) (D_Text_init 38 rfl) (fun _ => ?_) (by decide)
  refine j_top0 (x' := 101) (by decide +kernel) ?_
  refine j_bipush (v := 32) (D_Text_init 39 rfl) rfl ?_
  refine j_ic_ne (tgt := 95) (D_Text_init 40 rfl) rfl (wr_lit rfl) (wr_lit rfl) (fun _ => ?_) (fun h => absurd h (by decide))
  refine j_iinc (k := 0) (x' := 109) (L' := [(2, vi 109), (1, vi 18), (0, rf X 15)]) (D_Text_init 49 rfl) rfl (by decide +kernel) (by decide) rfl ?_
  refine j_goto (tgt := 57) (D_Text_init 50 rfl) rfl ?_
  refine j_iloadn (k := 0) (D_Text_init 29 rfl) rfl rfl ?_
  refine j_ldcS (i := 0) rfl rfl (D_Text_init 30 rfl) ?_
  refine j_cKi (As := []) (c_String_length (i := 0) (by decide)) rfl lk_Text_34 mok_String_length (by decide) (by decide) rfl rfl (Nat.le_of_ble_eq_true rfl) (D_Text_init 31 rfl) (fun _ => ?_) (by decide)
  refine j_top0 (x' := 199) (by decide +kernel) ?_
  refine j_ic_ge (tgt := 101) (D_Text_init 32 rfl) rfl (wr_lit rfl) (wr_lit rfl) (fun h => absurd h (by decide)) (fun _ => ?_)
  refine j_iloadn (k := 1) (D_Text_init 33 rfl) rfl rfl ?_
  refine j_bipush (v := 36) (D_Text_init 34 rfl) rfl ?_
  refine j_ic_gt (tgt := 101) (D_Text_init 35 rfl) rfl (wr_lit rfl) (wr_lit rfl) (fun h => absurd h (by decide)) (fun _ => ?_)
  refine j_ldcS (i := 0) rfl rfl (D_Text_init 36 rfl) ?_
  refine j_iloadn (k := 0) (D_Text_init 37 rfl) rfl rfl ?_
  refine j_cKi (As := [vi 109]) (c_String_charAt (i := 0) (x := 109) (by decide) (wr_lit rfl) (by decide) (by decide)) rfl lk_Text_40 mok_String_charAt (by decide) (by decide) rfl rfl (Nat.le_of_ble_eq_true rfl) (D_Text_init 38 rfl) (fun _ => ?_) (by decide)
  refine j_top0 (x' := 114) (by decide +kernel) ?_
  refine j_bipush (v := 32) (D_Text_init 39 rfl) rfl ?_
  refine j_ic_ne (tgt := 95) (D_Text_init 40 rfl) rfl (wr_lit rfl) (wr_lit rfl) (fun _ => ?_) (fun h => absurd h (by decide))
  refine j_iinc (k := 0) (x' := 110) (L' := [(2, vi 110), (1, vi 18), (0, rf X 15)]) (D_Text_init 49 rfl) rfl (by decide +kernel) (by decide) rfl ?_
  refine j_goto (tgt := 57) (D_Text_init 50 rfl) rfl ?_
  refine j_iloadn (k := 0) (D_Text_init 29 rfl) rfl rfl ?_
  refine j_ldcS (i := 0) rfl rfl (D_Text_init 30 rfl) ?_
  refine j_cKi (As := []) (c_String_length (i := 0) (by decide)) rfl lk_Text_34 mok_String_length (by decide) (by decide) rfl rfl (Nat.le_of_ble_eq_true rfl) (D_Text_init 31 rfl) (fun _ => ?_) (by decide)
  refine j_top0 (x' := 199) (by decide +kernel) ?_
  refine j_ic_ge (tgt := 101) (D_Text_init 32 rfl) rfl (wr_lit rfl) (wr_lit rfl) (fun h => absurd h (by decide)) (fun _ => ?_)
  refine j_iloadn (k := 1) (D_Text_init 33 rfl) rfl rfl ?_
  refine j_bipush (v := 36) (D_Text_init 34 rfl) rfl ?_
  refine j_ic_gt (tgt := 101) (D_Text_init 35 rfl) rfl (wr_lit rfl) (wr_lit rfl) (fun h => absurd h (by decide)) (fun _ => ?_)
  refine j_ldcS (i := 0) rfl rfl (D_Text_init 36 rfl) ?_
  refine j_iloadn (k := 0) (D_Text_init 37 rfl) rfl rfl ?_
  refine j_cKi (As := [vi 110]) (c_String_charAt (i := 0) (x := 110) (by decide) (wr_lit rfl) (by decide) (by decide)) rfl lk_Text_40 mok_String_charAt (by decide) (by decide) rfl rfl (Nat.le_of_ble_eq_true rfl) (D_Text_init 38 rfl) (fun _ => ?_) (by decide)
  refine j_top0 (x' := 32) (by decide +kernel) ?_
  refine j_bipush (v := 32) (D_Text_init 39 rfl) rfl ?_
  refine j_ic_ne (tgt := 95) (D_Text_init 40 rfl) rfl (wr_lit rfl) (wr_lit rfl) (fun h => absurd rfl h) (fun _ => ?_)
  refine j_aloadn (k := 2) (D_Text_init 41 rfl) rfl rfl ?_
  refine j_getR (t := 17) rfl fa_Text_15 kd_15 (by decide) (by decide) rfl (fun _ => by decide +kernel) (by decide) (D_Text_init 42 rfl) ?_
  refine j_iloadn (k := 1) (D_Text_init 43 rfl) rfl rfl ?_
  refine j_iloadn (k := 0) (D_Text_init 44 rfl) rfl rfl ?_
  refine j_iconst (v := 1) (D_Text_init 45 rfl) rfl ?_
  refine j_iadd (D_Text_init 46 rfl) ?_
  refine j_top0 (x' := 111) (by decide +kernel) ?_
  refine j_iast (NI := 37) (D_Text_init 47 rfl) kd_17 (by decide) (wr_lit rfl) rfl (by decide) (by decide) ?_
  refine j_iinc (k := 1) (x' := 19) (L' := [(1, vi 19), (2, vi 110), (0, rf X 15)]) (D_Text_init 48 rfl) rfl (by decide +kernel) (by decide) rfl ?_
  refine j_iinc (k := 1) (x' := 111) (L' := [(2, vi 111), (1, vi 19), (0, rf X 15)]) (D_Text_init 49 rfl) rfl (by decide +kernel) (by decide) rfl ?_
  refine j_goto (tgt := 57) (D_Text_init 50 rfl) rfl ?_
  refine j_iloadn (k := 0) (D_Text_init 29 rfl) rfl rfl ?_
  refine j_ldcS (i := 0) rfl rfl (D_Text_init 30 rfl) ?_
  refine j_cKi (As := []) (c_String_length (i := 0) (by decide)) rfl lk_Text_34 mok_String_length (by decide) (by decide) rfl rfl (Nat.le_of_ble_eq_true rfl) (D_Text_init 31 rfl) (fun _ => ?_) (by decide)
  refine j_top0 (x' := 199) (by decide +kernel) ?_
  refine j_ic_ge (tgt := 101) (D_Text_init 32 rfl) rfl (wr_lit rfl) (wr_lit rfl) (fun h => absurd h (by decide)) (fun _ => ?_)
  refine j_iloadn (k := 1) (D_Text_init 33 rfl) rfl rfl ?_
  refine j_bipush (v := 36) (D_Text_init 34 rfl) rfl ?_
  refine j_ic_gt (tgt := 101) (D_Text_init 35 rfl) rfl (wr_lit rfl) (wr_lit rfl) (fun h => absurd h (by decide)) (fun _ => ?_)
  refine j_ldcS (i := 0) rfl rfl (D_Text_init 36 rfl) ?_
  refine j_iloadn (k := 0) (D_Text_init 37 rfl) rfl rfl ?_
  refine j_cKi (As := [vi 111]) (c_String_charAt (i := 0) (x := 111) (by decide) (wr_lit rfl) (by decide) (by decide)) rfl lk_Text_40 mok_String_charAt (by decide) (by decide) rfl rfl (Nat.le_of_ble_eq_true rfl) (D_Text_init 38 rfl) (fun _ => ?_) (by decide)
  refine j_top0 (x' := 119) (by decide +kernel) ?_
  refine j_bipush (v := 32) (D_Text_init 39 rfl) rfl ?_
  refine j_ic_ne (tgt := 95) (D_Text_init 40 rfl) rfl (wr_lit rfl) (wr_lit rfl) (fun _ => ?_) (fun h => absurd h (by decide))
  refine j_iinc (k := 0) (x' := 112) (L' := [(2, vi 112), (1, vi 19), (0, rf X 15)]) (D_Text_init 49 rfl) rfl (by decide +kernel) (by decide) rfl ?_
  refine j_goto (tgt := 57) (D_Text_init 50 rfl) rfl ?_
  refine j_iloadn (k := 0) (D_Text_init 29 rfl) rfl rfl ?_
  refine j_ldcS (i := 0) rfl rfl (D_Text_init 30 rfl) ?_
  refine j_cKi (As := []) (c_String_length (i := 0) (by decide)) rfl lk_Text_34 mok_String_length (by decide) (by decide) rfl rfl (Nat.le_of_ble_eq_true rfl) (D_Text_init 31 rfl) (fun _ => ?_) (by decide)
  refine j_top0 (x' := 199) (by decide +kernel) ?_
  refine j_ic_ge (tgt := 101) (D_Text_init 32 rfl) rfl (wr_lit rfl) (wr_lit rfl) (fun h => absurd h (by decide)) (fun _ => ?_)
  refine j_iloadn (k := 1) (D_Text_init 33 rfl) rfl rfl ?_
  refine j_bipush (v := 36) (D_Text_init 34 rfl) rfl ?_
  refine j_ic_gt (tgt := 101) (D_Text_init 35 rfl) rfl (wr_lit rfl) (wr_lit rfl) (fun h => absurd h (by decide)) (fun _ => ?_)
  refine j_ldcS (i := 0) rfl rfl (D_Text_init 36 rfl) ?_
  refine j_iloadn (k := 0) (D_Text_init 37 rfl) rfl rfl ?_
  refine j_cKi (As := [vi 112]) (c_String_charAt (i := 0) (x := 112) (by decide) (wr_lit rfl) (by decide) (by decide)) rfl lk_Text_40 mok_String_charAt (by decide) (by decide) rfl rfl (Nat.le_of_ble_eq_true rfl) (D_Text_init 38 rfl) (fun _ => ?_) (by decide)
  refine j_top0 (x' := 114) (by decide +kernel) ?_
  refine j_bipush (v := 32) (D_Text_init 39 rfl) rfl ?_
  refine j_ic_ne (tgt := 95) (D_Text_init 40 rfl) rfl (wr_lit rfl) (wr_lit rfl) (fun _ => ?_) (fun h => absurd h (by decide))
  refine j_iinc (k := 0) (x' := 113) (L' := [(2, vi 113), (1, vi 19), (0, rf X 15)]) (D_Text_init 49 rfl) rfl (by decide +kernel) (by decide) rfl ?_
  refine j_goto (tgt := 57) (D_Text_init 50 rfl) rfl ?_
  refine j_iloadn (k := 0) (D_Text_init 29 rfl) rfl rfl ?_
  refine j_ldcS (i := 0) rfl rfl (D_Text_init 30 rfl) ?_
  refine j_cKi (As := []) (c_String_length (i := 0) (by decide)) rfl lk_Text_34 mok_String_length (by decide) (by decide) rfl rfl (Nat.le_of_ble_eq_true rfl) (D_Text_init 31 rfl) (fun _ => ?_) (by decide)
  refine j_top0 (x' := 199) (by decide +kernel) ?_
  refine j_ic_ge (tgt := 101) (D_Text_init 32 rfl) rfl (wr_lit rfl) (wr_lit rfl) (fun h => absurd h (by decide)) (fun _ => ?_)
  refine j_iloadn (k := 1) (D_Text_init 33 rfl) rfl rfl ?_
  refine j_bipush (v := 36) (D_Text_init 34 rfl) rfl ?_
  refine j_ic_gt (tgt := 101) (D_Text_init 35 rfl) rfl (wr_lit rfl) (wr_lit rfl) (fun h => absurd h (by decide)) (fun _ => ?_)
  refine j_ldcS (i := 0) rfl rfl (D_Text_init 36 rfl) ?_
  refine j_iloadn (k := 0) (D_Text_init 37 rfl) rfl rfl ?_
  refine j_cKi (As := [vi 113]) (c_String_charAt (i := 0) (x := 113) (by decide) (wr_lit rfl) (by decide) (by decide)) rfl lk_Text_40 mok_String_charAt (by decide) (by decide) rfl rfl (Nat.le_of_ble_eq_true rfl) (D_Text_init 38 rfl) (fun _ => ?_) (by decide)
  refine j_top0 (x' := 105) (by decide +kernel) ?_
  refine j_bipush (v := 32) (D_Text_init 39 rfl) rfl ?_
  refine j_ic_ne (tgt := 95) (D_Text_init 40 rfl) rfl (wr_lit rfl) (wr_lit rfl) (fun _ => ?_) (fun h => absurd h (by decide))
  refine j_iinc (k := 0) (x' := 114) (L' := [(2, vi 114), (1, vi 19), (0, rf X 15)]) (D_Text_init 49 rfl) rfl (by decide +kernel) (by decide) rfl ?_
  refine j_goto (tgt := 57) (D_Text_init 50 rfl) rfl ?_
  refine j_iloadn (k := 0) (D_Text_init 29 rfl) rfl rfl ?_
  refine j_ldcS (i := 0) rfl rfl (D_Text_init 30 rfl) ?_
  refine j_cKi (As := []) (c_String_length (i := 0) (by decide)) rfl lk_Text_34 mok_String_length (by decide) (by decide) rfl rfl (Nat.le_of_ble_eq_true rfl) (D_Text_init 31 rfl) (fun _ => ?_) (by decide)
  refine j_top0 (x' := 199) (by decide +kernel) ?_
  refine j_ic_ge (tgt := 101) (D_Text_init 32 rfl) rfl (wr_lit rfl) (wr_lit rfl) (fun h => absurd h (by decide)) (fun _ => ?_)
  refine j_iloadn (k := 1) (D_Text_init 33 rfl) rfl rfl ?_
  refine j_bipush (v := 36) (D_Text_init 34 rfl) rfl ?_
  refine j_ic_gt (tgt := 101) (D_Text_init 35 rfl) rfl (wr_lit rfl) (wr_lit rfl) (fun h => absurd h (by decide)) (fun _ => ?_)
  refine j_ldcS (i := 0) rfl rfl (D_Text_init 36 rfl) ?_
  refine j_iloadn (k := 0) (D_Text_init 37 rfl) rfl rfl ?_
  refine j_cKi (As := [vi 114]) (c_String_charAt (i := 0) (x := 114) (by decide) (wr_lit rfl) (by decide) (by decide)) rfl lk_Text_40 mok_String_charAt (by decide) (by decide) rfl rfl (Nat.le_of_ble_eq_true rfl) (D_Text_init 38 rfl) (fun _ => ?_) (by decide)
  refine j_top0 (x' := 116) (by decide +kernel) ?_
  refine j_bipush (v := 32) (D_Text_init 39 rfl) rfl ?_
  refine j_ic_ne (tgt := 95) (D_Text_init 40 rfl) rfl (wr_lit rfl) (wr_lit rfl) (fun _ => ?_) (fun h => absurd h (by decide))
  refine j_iinc (k := 0) (x' := 115) (L' := [(2, vi 115), (1, vi 19), (0, rf X 15)]) (D_Text_init 49 rfl) rfl (by decide +kernel) (by decide) rfl ?_
  refine j_goto (tgt := 57) (D_Text_init 50 rfl) rfl ?_
  refine j_iloadn (k := 0) (D_Text_init 29 rfl) rfl rfl ?_
  refine j_ldcS (i := 0) rfl rfl (D_Text_init 30 rfl) ?_
  refine j_cKi (As := []) (c_String_length (i := 0) (by decide)) rfl lk_Text_34 mok_String_length (by decide) (by decide) rfl rfl (Nat.le_of_ble_eq_true rfl) (D_Text_init 31 rfl) (fun _ => ?_) (by decide)
  refine j_top0 (x' := 199) (by decide +kernel) ?_
  refine j_ic_ge (tgt := 101) (D_Text_init 32 rfl) rfl (wr_lit rfl) (wr_lit rfl) (fun h => absurd h (by decide)) (fun _ => ?_)
  refine j_iloadn (k := 1) (D_Text_init 33 rfl) rfl rfl ?_
  refine j_bipush (v := 36) (D_Text_init 34 rfl) rfl ?_
  refine j_ic_gt (tgt := 101) (D_Text_init 35 rfl) rfl (wr_lit rfl) (wr_lit rfl) (fun h => absurd h (by decide)) (fun _ => ?_)
  refine j_ldcS (i := 0) rfl rfl (D_Text_init 36 rfl) ?_
  refine j_iloadn (k := 0) (D_Text_init 37 rfl) rfl rfl ?_
  refine j_cKi (As := [vi 115]) (c_String_charAt (i := 0) (x := 115) (by decide) (wr_lit rfl) (by decide) (by decide)) rfl lk_Text_40 mok_String_charAt (by decide) (by decide) rfl rfl (Nat.le_of_ble_eq_true rfl) (D_Text_init 38 rfl) (fun _ => ?_) (by decide)
  refine j_top0 (x' := 32) (by decide +kernel) ?_
  refine j_bipush (v := 32) (D_Text_init 39 rfl) rfl ?_
  refine j_ic_ne (tgt := 95) (D_Text_init 40 rfl) rfl (wr_lit rfl) (wr_lit rfl) (fun h => absurd rfl h) (fun _ => ?_)
  refine j_aloadn (k := 2) (D_Text_init 41 rfl) rfl rfl ?_
  refine j_getR (t := 17) rfl fa_Text_15 kd_15 (by decide) (by decide) rfl (fun _ => by decide +kernel) (by decide) (D_Text_init 42 rfl) ?_
  refine j_iloadn (k := 1) (D_Text_init 43 rfl) rfl rfl ?_
  refine j_iloadn (k := 0) (D_Text_init 44 rfl) rfl rfl ?_
  refine j_iconst (v := 1) (D_Text_init 45 rfl) rfl ?_
  refine j_iadd (D_Text_init 46 rfl) ?_
  refine j_top0 (x' := 116) (by decide +kernel) ?_
  refine j_iast (NI := 37) (D_Text_init 47 rfl) kd_17 (by decide) (wr_lit rfl) rfl (by decide) (by decide) ?_
  refine j_iinc (k := 1) (x' := 20) (L' := [(1, vi 20), (2, vi 115), (0, rf X 15)]) (D_Text_init 48 rfl) rfl (by decide +kernel) (by decide) rfl ?_
  refine j_iinc (k := 1) (x' := 116) (L' := [(2, vi 116), (1, vi 20), (0, rf X 15)]) (D_Text_init 49 rfl) rfl (by decide +kernel) (by decide) rfl ?_
  refine j_goto (tgt := 57) (D_Text_init 50 rfl) rfl ?_
  refine j_iloadn (k := 0) (D_Text_init 29 rfl) rfl rfl ?_
  refine j_ldcS (i := 0) rfl rfl (D_Text_init 30 rfl) ?_
  refine j_cKi (As := []) (c_String_length (i := 0) (by decide)) rfl lk_Text_34 mok_String_length (by decide) (by decide) rfl rfl (Nat.le_of_ble_eq_true rfl) (D_Text_init 31 rfl) (fun _ => ?_) (by decide)
  refine j_top0 (x' := 199) (by decide +kernel) ?_
  refine j_ic_ge (tgt := 101) (D_Text_init 32 rfl) rfl (wr_lit rfl) (wr_lit rfl) (fun h => absurd h (by decide)) (fun _ => ?_)
  refine j_iloadn (k := 1) (D_Text_init 33 rfl) rfl rfl ?_
  refine j_bipush (v := 36) (D_Text_init 34 rfl) rfl ?_
  refine j_ic_gt (tgt := 101) (D_Text_init 35 rfl) rfl (wr_lit rfl) (wr_lit rfl) (fun h => absurd h (by decide)) (fun _ => ?_)
  refine j_ldcS (i := 0) rfl rfl (D_Text_init 36 rfl) ?_
  refine j_iloadn (k := 0) (D_Text_init 37 rfl) rfl rfl ?_
  refine j_cKi (As := [vi 116]) (c_String_charAt (i := 0) (x := 116) (by decide) (wr_lit rfl) (by decide) (by decide)) rfl lk_Text_40 mok_String_charAt (by decide) (by decide) rfl rfl (Nat.le_of_ble_eq_true rfl) (D_Text_init 38 rfl) (fun _ => ?_) (by decide)
  refine j_top0 (x' := 116) (by decide +kernel) ?_
  refine j_bipush (v := 32) (D_Text_init 39 rfl) rfl ?_
  refine j_ic_ne (tgt := 95) (D_Text_init 40 rfl) rfl (wr_lit rfl) (wr_lit rfl) (fun _ => ?_) (fun h => absurd h (by decide))
  refine j_iinc (k := 0) (x' := 117) (L' := [(2, vi 117), (1, vi 20), (0, rf X 15)]) (D_Text_init 49 rfl) rfl (by decide +kernel) (by decide) rfl ?_
  refine j_goto (tgt := 57) (D_Text_init 50 rfl) rfl ?_
  refine j_iloadn (k := 0) (D_Text_init 29 rfl) rfl rfl ?_
  refine j_ldcS (i := 0) rfl rfl (D_Text_init 30 rfl) ?_
  refine j_cKi (As := []) (c_String_length (i := 0) (by decide)) rfl lk_Text_34 mok_String_length (by decide) (by decide) rfl rfl (Nat.le_of_ble_eq_true rfl) (D_Text_init 31 rfl) (fun _ => ?_) (by decide)
  refine j_top0 (x' := 199) (by decide +kernel) ?_
  refine j_ic_ge (tgt := 101) (D_Text_init 32 rfl) rfl (wr_lit rfl) (wr_lit rfl) (fun h => absurd h (by decide)) (fun _ => ?_)
  refine j_iloadn (k := 1) (D_Text_init 33 rfl) rfl rfl ?_
  refine j_bipush (v := 36) (D_Text_init 34 rfl) rfl ?_
  refine j_ic_gt (tgt := 101) (D_Text_init 35 rfl) rfl (wr_lit rfl) (wr_lit rfl) (fun h => absurd h (by decide)) (fun _ => ?_)
  refine j_ldcS (i := 0) rfl rfl (D_Text_init 36 rfl) ?_
  refine j_iloadn (k := 0) (D_Text_init 37 rfl) rfl rfl ?_
  refine j_cKi (As := [vi 117]) (c_String_charAt (i := 0) (x := 117) (by decide) (wr_lit rfl) (by decide) (by decide)) rfl lk_Text_40 mok_String_charAt (by decide) (by decide) rfl rfl (Nat.le_of_ble_eq_true rfl) (D_Text_init 38 rfl) (fun _ => ?_) (by decide)
  refine j_top0 (x' := 114) (by decide +kernel) ?_
  refine j_bipush (v := 32) (D_Text_init 39 rfl) rfl ?_
  refine j_ic_ne (tgt := 95) (D_Text_init 40 rfl) rfl (wr_lit rfl) (wr_lit rfl) (fun _ => ?_) (fun h => absurd h (by decide))
  refine j_iinc (k := 0) (x' := 118) (L' := [(2, vi 118), (1, vi 20), (0, rf X 15)]) (D_Text_init 49 rfl) rfl (by decide +kernel) (by decide) rfl ?_
  refine j_goto (tgt := 57) (D_Text_init 50 rfl) rfl ?_
  refine j_iloadn (k := 0) (D_Text_init 29 rfl) rfl rfl ?_
  refine j_ldcS (i := 0) rfl rfl (D_Text_init 30 rfl) ?_
  refine j_cKi (As := []) (c_String_length (i := 0) (by decide)) rfl lk_Text_34 mok_String_length (by decide) (by decide) rfl rfl (Nat.le_of_ble_eq_true rfl) (D_Text_init 31 rfl) (fun _ => ?_) (by decide)
  refine j_top0 (x' := 199) (by decide +kernel) ?_
  refine j_ic_ge (tgt := 101) (D_Text_init 32 rfl) rfl (wr_lit rfl) (wr_lit rfl) (fun h => absurd h (by decide)) (fun _ => ?_)
  refine j_iloadn (k := 1) (D_Text_init 33 rfl) rfl rfl ?_
  refine j_bipush (v := 36) (D_Text_init 34 rfl) rfl ?_
  refine j_ic_gt (tgt := 101) (D_Text_init 35 rfl) rfl (wr_lit rfl) (wr_lit rfl) (fun h => absurd h (by decide)) (fun _ => ?_)
  refine j_ldcS (i := 0) rfl rfl (D_Text_init 36 rfl) ?_
  refine j_iloadn (k := 0) (D_Text_init 37 rfl) rfl rfl ?_
  refine j_cKi (As := [vi 118]) (c_String_charAt (i := 0) (x := 118) (by decide) (wr_lit rfl) (by decide) (by decide)) rfl lk_Text_40 mok_String_charAt (by decide) (by decide) rfl rfl (Nat.le_of_ble_eq_true rfl) (D_Text_init 38 rfl) (fun _ => ?_) (by decide)
  refine j_top0 (x' := 97) (by decide +kernel) ?_
  refine j_bipush (v := 32) (D_Text_init 39 rfl) rfl ?_
  refine j_ic_ne (tgt := 95) (D_Text_init 40 rfl) rfl (wr_lit rfl) (wr_lit rfl) (fun _ => ?_) (fun h => absurd h (by decide))
  refine j_iinc (k := 0) (x' := 119) (L' := [(2, vi 119), (1, vi 20), (0, rf X 15)]) (D_Text_init 49 rfl) rfl (by decide +kernel) (by decide) rfl ?_
  refine j_goto (tgt := 57) (D_Text_init 50 rfl) rfl ?_
  refine j_iloadn (k := 0) (D_Text_init 29 rfl) rfl rfl ?_
  refine j_ldcS (i := 0) rfl rfl (D_Text_init 30 rfl) ?_
  refine j_cKi (As := []) (c_String_length (i := 0) (by decide)) rfl lk_Text_34 mok_String_length (by decide) (by decide) rfl rfl (Nat.le_of_ble_eq_true rfl) (D_Text_init 31 rfl) (fun _ => ?_) (by decide)
  refine j_top0 (x' := 199) (by decide +kernel) ?_
  refine j_ic_ge (tgt := 101) (D_Text_init 32 rfl) rfl (wr_lit rfl) (wr_lit rfl) (fun h => absurd h (by decide)) (fun _ => ?_)
  refine j_iloadn (k := 1) (D_Text_init 33 rfl) rfl rfl ?_
  refine j_bipush (v := 36) (D_Text_init 34 rfl) rfl ?_
  refine j_ic_gt (tgt := 101) (D_Text_init 35 rfl) rfl (wr_lit rfl) (wr_lit rfl) (fun h => absurd h (by decide)) (fun _ => ?_)
  refine j_ldcS (i := 0) rfl rfl (D_Text_init 36 rfl) ?_
  refine j_iloadn (k := 0) (D_Text_init 37 rfl) rfl rfl ?_
  refine j_cKi (As := [vi 119]) (c_String_charAt (i := 0) (x := 119) (by decide) (wr_lit rfl) (by decide) (by decide)) rfl lk_Text_40 mok_String_charAt (by decide) (by decide) rfl rfl (Nat.le_of_ble_eq_true rfl) (D_Text_init 38 rfl) (fun _ => ?_) (by decide)
  refine j_top0 (x' := 118) (by decide +kernel) ?_
  refine j_bipush (v := 32) (D_Text_init 39 rfl) rfl ?_
  refine j_ic_ne (tgt := 95) (D_Text_init 40 rfl) rfl (wr_lit rfl) (wr_lit rfl) (fun _ => ?_) (fun h => absurd h (by decide))
  refine j_iinc (k := 0) (x' := 120) (L' := [(2, vi 120), (1, vi 20), (0, rf X 15)]) (D_Text_init 49 rfl) rfl (by decide +kernel) (by decide) rfl ?_
  refine j_goto (tgt := 57) (D_Text_init 50 rfl) rfl ?_
  refine j_iloadn (k := 0) (D_Text_init 29 rfl) rfl rfl ?_
  refine j_ldcS (i := 0) rfl rfl (D_Text_init 30 rfl) ?_
  refine j_cKi (As := []) (c_String_length (i := 0) (by decide)) rfl lk_Text_34 mok_String_length (by decide) (by decide) rfl rfl (Nat.le_of_ble_eq_true rfl) (D_Text_init 31 rfl) (fun _ => ?_) (by decide)
  refine j_top0 (x' := 199) (by decide +kernel) ?_
  refine j_ic_ge (tgt := 101) (D_Text_init 32 rfl) rfl (wr_lit rfl) (wr_lit rfl) (fun h => absurd h (by decide)) (fun _ => ?_)
  refine j_iloadn (k := 1) (D_Text_init 33 rfl) rfl rfl ?_
  refine j_bipush (v := 36) (D_Text_init 34 rfl) rfl ?_
  refine j_ic_gt (tgt := 101) (D_Text_init 35 rfl) rfl (wr_lit rfl) (wr_lit rfl) (fun h => absurd h (by decide)) (fun _ => ?_)
  refine j_ldcS (i := 0) rfl rfl (D_Text_init 36 rfl) ?_
  refine j_iloadn (k := 0) (D_Text_init 37 rfl) rfl rfl ?_
  refine j_cKi (As := [vi 120]) (c_String_charAt (i := 0) (x := 120) (by decide) (wr_lit rfl) (by decide) (by decide)) rfl lk_Text_40 mok_String_charAt (by decide) (by decide) rfl rfl (Nat.le_of_ble_eq_true rfl) (D_Text_init 38 rfl) (fun _ => ?_) (by decide)
  refine j_top0 (x' := 101) (by decide +kernel) ?_
  refine j_bipush (v := 32) (D_Text_init 39 rfl) rfl ?_
  refine j_ic_ne (tgt := 95) (D_Text_init 40 rfl) rfl (wr_lit rfl) (wr_lit rfl) (fun _ => ?_) (fun h => absurd h (by decide))
  refine j_iinc (k := 0) (x' := 121) (L' := [(2, vi 121), (1, vi 20), (0, rf X 15)]) (D_Text_init 49 rfl) rfl (by decide +kernel) (by decide) rfl ?_
  refine j_goto (tgt := 57) (D_Text_init 50 rfl) rfl ?_
  refine j_iloadn (k := 0) (D_Text_init 29 rfl) rfl rfl ?_
  refine j_ldcS (i := 0) rfl rfl (D_Text_init 30 rfl) ?_
  refine j_cKi (As := []) (c_String_length (i := 0) (by decide)) rfl lk_Text_34 mok_String_length (by decide) (by decide) rfl rfl (Nat.le_of_ble_eq_true rfl) (D_Text_init 31 rfl) (fun _ => ?_) (by decide)
  refine j_top0 (x' := 199) (by decide +kernel) ?_
  refine j_ic_ge (tgt := 101) (D_Text_init 32 rfl) rfl (wr_lit rfl) (wr_lit rfl) (fun h => absurd h (by decide)) (fun _ => ?_)
  refine j_iloadn (k := 1) (D_Text_init 33 rfl) rfl rfl ?_
  refine j_bipush (v := 36) (D_Text_init 34 rfl) rfl ?_
  refine j_ic_gt (tgt := 101) (D_Text_init 35 rfl) rfl (wr_lit rfl) (wr_lit rfl) (fun h => absurd h (by decide)) (fun _ => ?_)
  refine j_ldcS (i := 0) rfl rfl (D_Text_init 36 rfl) ?_
  refine j_iloadn (k := 0) (D_Text_init 37 rfl) rfl rfl ?_
  refine j_cKi (As := [vi 121]) (c_String_charAt (i := 0) (x := 121) (by decide) (wr_lit rfl) (by decide) (by decide)) rfl lk_Text_40 mok_String_charAt (by decide) (by decide) rfl rfl (Nat.le_of_ble_eq_true rfl) (D_Text_init 38 rfl) (fun _ => ?_) (by decide)
  refine j_top0 (x' := 114) (by decide +kernel) ?_
  refine j_bipush (v := 32) (D_Text_init 39 rfl) rfl ?_
  refine j_ic_ne (tgt := 95) (D_Text_init 40 rfl) rfl (wr_lit rfl) (wr_lit rfl) (fun _ => ?_) (fun h => absurd h (by decide))
  refine j_iinc (k := 0) (x' := 122) (L' := [(2, vi 122), (1, vi 20), (0, rf X 15)]) (D_Text_init 49 rfl) rfl (by decide +kernel) (by decide) rfl ?_
  refine j_goto (tgt := 57) (D_Text_init 50 rfl) rfl ?_
  refine j_iloadn (k := 0) (D_Text_init 29 rfl) rfl rfl ?_
  refine j_ldcS (i := 0) rfl rfl (D_Text_init 30 rfl) ?_
  refine j_cKi (As := []) (c_String_length (i := 0) (by decide)) rfl lk_Text_34 mok_String_length (by decide) (by decide) rfl rfl (Nat.le_of_ble_eq_true rfl) (D_Text_init 31 rfl) (fun _ => ?_) (by decide)
  refine j_top0 (x' := 199) (by decide +kernel) ?_
  refine j_ic_ge (tgt := 101) (D_Text_init 32 rfl) rfl (wr_lit rfl) (wr_lit rfl) (fun h => absurd h (by decide)) (fun _ => ?_)
  refine j_iloadn (k := 1) (D_Text_init 33 rfl) rfl rfl ?_
  refine j_bipush (v := 36) (D_Text_init 34 rfl) rfl ?_
  refine j_ic_gt (tgt := 101) (D_Text_init 35 rfl) rfl (wr_lit rfl) (wr_lit rfl) (fun h => absurd h (by decide)) (fun _ => ?_)
  refine j_ldcS (i := 0) rfl rfl (D_Text_init 36 rfl) ?_
  refine j_iloadn (k := 0) (D_Text_init 37 rfl) rfl rfl ?_
  refine j_cKi (As := [vi 122]) (c_String_charAt (i := 0) (x := 122) (by decide) (wr_lit rfl) (by decide) (by decide)) rfl lk_Text_40 mok_String_charAt (by decide) (by decide) rfl rfl (Nat.le_of_ble_eq_true rfl) (D_Text_init 38 rfl) (fun _ => ?_) (by decide)
  refine j_top0 (x' := 115) (by decide +kernel) ?_
  refine j_bipush (v := 32) (D_Text_init 39 rfl) rfl ?_
  refine j_ic_ne (tgt := 95) (D_Text_init 40 rfl) rfl (wr_lit rfl) (wr_lit rfl) (fun _ => ?_) (fun h => absurd h (by decide))
  refine j_iinc (k := 0) (x' := 123) (L' := [(2, vi 123), (1, vi 20), (0, rf X 15)]) (D_Text_init 49 rfl) rfl (by decide +kernel) (by decide) rfl ?_
  refine j_goto (tgt := 57) (D_Text_init 50 rfl) rfl ?_
  refine j_iloadn (k := 0) (D_Text_init 29 rfl) rfl rfl ?_
  refine j_ldcS (i := 0) rfl rfl (D_Text_init 30 rfl) ?_
  refine j_cKi (As := []) (c_String_length (i := 0) (by decide)) rfl lk_Text_34 mok_String_length (by decide) (by decide) rfl rfl (Nat.le_of_ble_eq_true rfl) (D_Text_init 31 rfl) (fun _ => ?_) (by decide)
  refine j_top0 (x' := 199) (by decide +kernel) ?_
  refine j_ic_ge (tgt := 101) (D_Text_init 32 rfl) rfl (wr_lit rfl) (wr_lit rfl) (fun h => absurd h (by decide)) (fun _ => ?_)
  refine j_iloadn (k := 1) (D_Text_init 33 rfl) rfl rfl ?_
  refine j_bipush (v := 36) (D_Text_init 34 rfl) rfl ?_
  refine j_ic_gt (tgt := 101) (D_Text_init 35 rfl) rfl (wr_lit rfl) (wr_lit rfl) (fun h => absurd h (by decide)) (fun _ => ?_)
  refine j_ldcS (i := 0) rfl rfl (D_Text_init 36 rfl) ?_
  refine j_iloadn (k := 0) (D_Text_init 37 rfl) rfl rfl ?_
  refine j_cKi (As := [vi 123]) (c_String_charAt (i := 0) (x := 123) (by decide) (wr_lit rfl) (by decide) (by decide)) rfl lk_Text_40 mok_String_charAt (by decide) (by decide) rfl rfl (Nat.le_of_ble_eq_true rfl) (D_Text_init 38 rfl) (fun _ => ?_) (by decide)
  refine j_top0 (x' := 101) (by decide +kernel) ?_
  refine j_bipush (v := 32) (D_Text_init 39 rfl) rfl ?_
  refine j_ic_ne (tgt := 95) (D_Text_init 40 rfl) rfl (wr_lit rfl) (wr_lit rfl) (fun _ => ?_) (fun h => absurd h (by decide))
  refine j_iinc (k := 0) (x' := 124) (L' := [(2, vi 124), (1, vi 20), (0, rf X 15)]) (D_Text_init 49 rfl) rfl (by decide +kernel) (by decide) rfl ?_
  refine j_goto (tgt := 57) (D_Text_init 50 rfl) rfl ?_
  refine j_iloadn (k := 0) (D_Text_init 29 rfl) rfl rfl ?_
  refine j_ldcS (i := 0) rfl rfl (D_Text_init 30 rfl) ?_
  refine j_cKi (As := []) (c_String_length (i := 0) (by decide)) rfl lk_Text_34 mok_String_length (by decide) (by decide) rfl rfl (Nat.le_of_ble_eq_true rfl) (D_Text_init 31 rfl) (fun _ => ?_) (by decide)
  refine j_top0 (x' := 199) (by decide +kernel) ?_
  refine j_ic_ge (tgt := 101) (D_Text_init 32 rfl) rfl (wr_lit rfl) (wr_lit rfl) (fun h => absurd h (by decide)) (fun _ => ?_)
  refine j_iloadn (k := 1) (D_Text_init 33 rfl) rfl rfl ?_
  refine j_bipush (v := 36) (D_Text_init 34 rfl) rfl ?_
  refine j_ic_gt (tgt := 101) (D_Text_init 35 rfl) rfl (wr_lit rfl) (wr_lit rfl) (fun h => absurd h (by decide)) (fun _ => ?_)
  refine j_ldcS (i := 0) rfl rfl (D_Text_init 36 rfl) ?_
  refine j_iloadn (k := 0) (D_Text_init 37 rfl) rfl rfl ?_
  refine j_cKi (As := [vi 124]) (c_String_charAt (i := 0) (x := 124) (by decide) (wr_lit rfl) (by decide) (by decide)) rfl lk_Text_40 mok_String_charAt (by decide) (by decide) rfl rfl (Nat.le_of_ble_eq_true rfl) (D_Text_init 38 rfl) (fun _ => ?_) (by decide)
  refine j_top0 (x' := 32) (by decide +kernel) ?_
  refine j_bipush (v := 32) (D_Text_init 39 rfl) rfl ?_
  refine j_ic_ne (tgt := 95) (D_Text_init 40 rfl) rfl (wr_lit rfl) (wr_lit rfl) (fun h => absurd rfl h) (fun _ => ?_)
  refine j_aloadn (k := 2) (D_Text_init 41 rfl) rfl rfl ?_
  refine j_getR (t := 17) rfl fa_Text_15 kd_15 (by decide) (by decide) rfl (fun _ => by decide +kernel) (by decide) (D_Text_init 42 rfl) ?_
  refine j_iloadn (k := 1) (D_Text_init 43 rfl) rfl rfl ?_
  refine j_iloadn (k := 0) (D_Text_init 44 rfl) rfl rfl ?_
  refine j_iconst (v := 1) (D_Text_init 45 rfl) rfl ?_
  refine j_iadd (D_Text_init 46 rfl) ?_
  refine j_top0 (x' := 125) (by decide +kernel) ?_
  refine j_iast (NI := 37) (D_Text_init 47 rfl) kd_17 (by decide) (wr_lit rfl) rfl (by decide) (by decide) ?_
  refine j_iinc (k := 1) (x' := 21) (L' := [(1, vi 21), (2, vi 124), (0, rf X 15)]) (D_Text_init 48 rfl) rfl (by decide +kernel) (by decide) rfl ?_
  refine j_iinc (k := 1) (x' := 125) (L' := [(2, vi 125), (1, vi 21), (0, rf X 15)]) (D_Text_init 49 rfl) rfl (by decide +kernel) (by decide) rfl ?_
  refine j_goto (tgt := 57) (D_Text_init 50 rfl) rfl ?_
  refine j_iloadn (k := 0) (D_Text_init 29 rfl) rfl rfl ?_
  refine j_ldcS (i := 0) rfl rfl (D_Text_init 30 rfl) ?_
  refine j_cKi (As := []) (c_String_length (i := 0) (by decide)) rfl lk_Text_34 mok_String_length (by decide) (by decide) rfl rfl (Nat.le_of_ble_eq_true rfl) (D_Text_init 31 rfl) (fun _ => ?_) (by decide)
  refine j_top0 (x' := 199) (by decide +kernel) ?_
  refine j_ic_ge (tgt := 101) (D_Text_init 32 rfl) rfl (wr_lit rfl) (wr_lit rfl) (fun h => absurd h (by decide)) (fun _ => ?_)
  refine j_iloadn (k := 1) (D_Text_init 33 rfl) rfl rfl ?_
  refine j_bipush (v := 36) (D_Text_init 34 rfl) rfl ?_
  refine j_ic_gt (tgt := 101) (D_Text_init 35 rfl) rfl (wr_lit rfl) (wr_lit rfl) (fun h => absurd h (by decide)) (fun _ => ?_)
  refine j_ldcS (i := 0) rfl rfl (D_Text_init 36 rfl) ?_
  refine j_iloadn (k := 0) (D_Text_init 37 rfl) rfl rfl ?_
  refine j_cKi (As := [vi 125]) (c_String_charAt (i := 0) (x := 125) (by decide) (wr_lit rfl) (by decide) (by decide)) rfl lk_Text_40 mok_String_charAt (by decide) (by decide) rfl rfl (Nat.le_of_ble_eq_true rfl) (D_Text_init 38 rfl) (fun _ => ?_) (by decide)
  refine j_top0 (x' := 114) (by decide +kernel) ?_
  refine j_bipush (v := 32) (D_Text_init 39 rfl) rfl ?_
  refine j_ic_ne (tgt := 95) (D_Text_init 40 rfl) rfl (wr_lit rfl) (wr_lit rfl) (fun _ => ?_) (fun h => absurd h (by decide))
  refine j_iinc (k := 0) (x' := 126) (L' := [(2, vi 126), (1, vi 21), (0, rf X 15)]) (D_Text_init 49 rfl) rfl (by decide +kernel) (by decide) rfl ?_
  refine j_goto (tgt := 57) (D_Text_init 50 rfl) rfl ?_
  refine j_iloadn (k := 0) (D_Text_init 29 rfl) rfl rfl ?_
  refine j_ldcS (i := 0) rfl rfl (D_Text_init 30 rfl) ?_
  refine j_cKi (As := []) (c_String_length (i := 0) (by decide)) rfl lk_Text_34 mok_String_length (by decide) (by decide) rfl rfl (Nat.le_of_ble_eq_true rfl) (D_Text_init 31 rfl) (fun _ => ?_) (by decide)
  refine j_top0 (x' := 199) (by decide +kernel) ?_
  refine j_ic_ge (tgt := 101) (D_Text_init 32 rfl) rfl (wr_lit rfl) (wr_lit rfl) (fun h => absurd h (by decide)) (fun _ => ?_)
  refine j_iloadn (k := 1) (D_Text_init 33 rfl) rfl rfl ?_
  refine j_bipush (v := 36) (D_Text_init 34 rfl) rfl ?_
  refine j_ic_gt (tgt := 101) (D_Text_init 35 rfl) rfl (wr_lit rfl) (wr_lit rfl) (fun h => absurd h (by decide)) (fun _ => ?_)
  refine j_ldcS (i := 0) rfl rfl (D_Text_init 36 rfl) ?_
  refine j_iloadn (k := 0) (D_Text_init 37 rfl) rfl rfl ?_
  refine j_cKi (As := [vi 126]) (c_String_charAt (i := 0) (x := 126) (by decide) (wr_lit rfl) (by decide) (by decide)) rfl lk_Text_40 mok_String_charAt (by decide) (by decide) rfl rfl (Nat.le_of_ble_eq_true rfl) (D_Text_init 38 rfl) (fun _ => ?_) (by decide)
  refine j_top0 (x' := 101) (by decide +kernel) ?_
  refine j_bipush (v := 32) (D_Text_init 39 rfl) rfl ?_
  refine j_ic_ne (tgt := 95) (D_Text_init 40 rfl) rfl (wr_lit rfl) (wr_lit rfl) (fun _ => ?_) (fun h => absurd h (by decide))
  refine j_iinc (k := 0) (x' := 127) (L' := [(2, vi 127), (1, vi 21), (0, rf X 15)]) (D_Text_init 49 rfl) rfl (by decide +kernel) (by decide) rfl ?_
  refine j_goto (tgt := 57) (D_Text_init 50 rfl) rfl ?_
  refine j_iloadn (k := 0) (D_Text_init 29 rfl) rfl rfl ?_
  refine j_ldcS (i := 0) rfl rfl (D_Text_init 30 rfl) ?_
  refine j_cKi (As := []) (c_String_length (i := 0) (by decide)) rfl lk_Text_34 mok_String_length (by decide) (by decide) rfl rfl (Nat.le_of_ble_eq_true rfl) (D_Text_init 31 rfl) (fun _ => ?_) (by decide)
  refine j_top0 (x' := 199) (by decide +kernel) ?_
  refine j_ic_ge (tgt := 101) (D_Text_init 32 rfl) rfl (wr_lit rfl) (wr_lit rfl) (fun h => absurd h (by decide)) (fun _ => ?_)
  refine j_iloadn (k := 1) (D_Text_init 33 rfl) rfl rfl ?_
  refine j_bipush (v := 36) (D_Text_init 34 rfl) rfl ?_
  refine j_ic_gt (tgt := 101) (D_Text_init 35 rfl) rfl (wr_lit rfl) (wr_lit rfl) (fun h => absurd h (by decide)) (fun _ => ?_)
  refine j_ldcS (i := 0) rfl rfl (D_Text_init 36 rfl) ?_
  refine j_iloadn (k := 0) (D_Text_init 37 rfl) rfl rfl ?_
  refine j_cKi (As := [vi 127]) (c_String_charAt (i := 0) (x := 127) (by decide) (wr_lit rfl) (by decide) (by decide)) rfl lk_Text_40 mok_String_charAt (by decide) (by decide) rfl rfl (Nat.le_of_ble_eq_true rfl) (D_Text_init 38 rfl) (fun _ => ?_) (by decide)
  refine j_top0 (x' := 108) (by decide +kernel) ?_
  refine j_bipush (v := 32) (D_Text_init 39 rfl) rfl ?_
  refine j_ic_ne (tgt := 95) (D_Text_init 40 rfl) rfl (wr_lit rfl) (wr_lit rfl) (fun _ => ?_) (fun h => absurd h (by decide))
  refine j_iinc (k := 0) (x' := 128) (L' := [(2, vi 128), (1, vi 21), (0, rf X 15)]) (D_Text_init 49 rfl) rfl (by decide +kernel) (by decide) rfl ?_
  refine j_goto (tgt := 57) (D_Text_init 50 rfl) rfl ?_
  refine j_iloadn (k := 0) (D_Text_init 29 rfl) rfl rfl ?_
  refine j_ldcS (i := 0) rfl rfl (D_Text_init 30 rfl) ?_
  refine j_cKi (As := []) (c_String_length (i := 0) (by decide)) rfl lk_Text_34 mok_String_length (by decide) (by decide) rfl rfl (Nat.le_of_ble_eq_true rfl) (D_Text_init 31 rfl) (fun _ => ?_) (by decide)
  refine j_top0 (x' := 199) (by decide +kernel) ?_
  refine j_ic_ge (tgt := 101) (D_Text_init 32 rfl) rfl (wr_lit rfl) (wr_lit rfl) (fun h => absurd h (by decide)) (fun _ => ?_)
  refine j_iloadn (k := 1) (D_Text_init 33 rfl) rfl rfl ?_
  refine j_bipush (v := 36) (D_Text_init 34 rfl) rfl ?_
  refine j_ic_gt (tgt := 101) (D_Text_init 35 rfl) rfl (wr_lit rfl) (wr_lit rfl) (fun h => absurd h (by decide)) (fun _ => ?_)
  refine j_ldcS (i := 0) rfl rfl (D_Text_init 36 rfl) ?_
  refine j_iloadn (k := 0) (D_Text_init 37 rfl) rfl rfl ?_
  refine j_cKi (As := [vi 128]) (c_String_charAt (i := 0) (x := 128) (by decide) (wr_lit rfl) (by decide) (by decide)) rfl lk_Text_40 mok_String_charAt (by decide) (by decide) rfl rfl (Nat.le_of_ble_eq_true rfl) (D_Text_init 38 rfl) (fun _ => ?_) (by decide)
  refine j_top0 (x' := 105) (by decide +kernel) ?_
  refine j_bipush (v := 32) (D_Text_init 39 rfl) rfl ?_
  refine j_ic_ne (tgt := 95) (D_Text_init 40 rfl) rfl (wr_lit rfl) (wr_lit rfl) (fun _ => ?_) (fun h => absurd h (by decide))
  refine j_iinc (k := 0) (x' := 129) (L' := [(2, vi 129), (1, vi 21), (0, rf X 15)]) (D_Text_init 49 rfl) rfl (by decide +kernel) (by decide) rfl ?_
  refine j_goto (tgt := 57) (D_Text_init 50 rfl) rfl ?_
  refine j_iloadn (k := 0) (D_Text_init 29 rfl) rfl rfl ?_
  refine j_ldcS (i := 0) rfl rfl (D_Text_init 30 rfl) ?_
  refine j_cKi (As := []) (c_String_length (i := 0) (by decide)) rfl lk_Text_34 mok_String_length (by decide) (by decide) rfl rfl (Nat.le_of_ble_eq_true rfl) (D_Text_init 31 rfl) (fun _ => ?_) (by decide)
  refine j_top0 (x' := 199) (by decide +kernel) ?_
  refine j_ic_ge (tgt := 101) (D_Text_init 32 rfl) rfl (wr_lit rfl) (wr_lit rfl) (fun h => absurd h (by decide)) (fun _ => ?_)
  refine j_iloadn (k := 1) (D_Text_init 33 rfl) rfl rfl ?_
  refine j_bipush (v := 36) (D_Text_init 34 rfl) rfl ?_
  refine j_ic_gt (tgt := 101) (D_Text_init 35 rfl) rfl (wr_lit rfl) (wr_lit rfl) (fun h => absurd h (by decide)) (fun _ => ?_)
  refine j_ldcS (i := 0) rfl rfl (D_Text_init 36 rfl) ?_
  refine j_iloadn (k := 0) (D_Text_init 37 rfl) rfl rfl ?_
  refine j_cKi (As := [vi 129]) (c_String_charAt (i := 0) (x := 129) (by decide) (wr_lit rfl) (by decide) (by decide)) rfl lk_Text_40 mok_String_charAt (by decide) (by decide) rfl rfl (Nat.le_of_ble_eq_true rfl) (D_Text_init 38 rfl) (fun _ => ?_) (by decide)
  refine j_top0 (x' := 101) (by decide +kernel) ?_
  refine j_bipush (v := 32) (D_Text_init 39 rfl) rfl ?_
  refine j_ic_ne (tgt := 95) (D_Text_init 40 rfl) rfl (wr_lit rfl) (wr_lit rfl) (fun _ => ?_) (fun h => absurd h (by decide))
  refine j_iinc (k := 0) (x' := 130) (L' := [(2, vi 130), (1, vi 21), (0, rf X 15)]) (D_Text_init 49 rfl) rfl (by decide +kernel) (by decide) rfl ?_
  refine j_goto (tgt := 57) (D_Text_init 50 rfl) rfl ?_
  refine j_iloadn (k := 0) (D_Text_init 29 rfl) rfl rfl ?_
  refine j_ldcS (i := 0) rfl rfl (D_Text_init 30 rfl) ?_
  refine j_cKi (As := []) (c_String_length (i := 0) (by decide)) rfl lk_Text_34 mok_String_length (by decide) (by decide) rfl rfl (Nat.le_of_ble_eq_true rfl) (D_Text_init 31 rfl) (fun _ => ?_) (by decide)
  refine j_top0 (x' := 199) (by decide +kernel) ?_
  refine j_ic_ge (tgt := 101) (D_Text_init 32 rfl) rfl (wr_lit rfl) (wr_lit rfl) (fun h => absurd h (by decide)) (fun _ => ?_)
  refine j_iloadn (k := 1) (D_Text_init 33 rfl) rfl rfl ?_
  refine j_bipush (v := 36) (D_Text_init 34 rfl) rfl ?_
  refine j_ic_gt (tgt := 101) (D_Text_init 35 rfl) rfl (wr_lit rfl) (wr_lit rfl) (fun h => absurd h (by decide)) (fun _ => ?_)
  refine j_ldcS (i := 0) rfl rfl (D_Text_init 36 rfl) ?_
  refine j_iloadn (k := 0) (D_Text_init 37 rfl) rfl rfl ?_
  refine j_cKi (As := [vi 130]) (c_String_charAt (i := 0) (x := 130) (by decide) (wr_lit rfl) (by decide) (by decide)) rfl lk_Text_40 mok_String_charAt (by decide) (by decide) rfl rfl (Nat.le_of_ble_eq_true rfl) (D_Text_init 38 rfl) (fun _ => ?_) (by decide)
  refine j_top0 (x' := 102) (by decide +kernel) ?_
  refine j_bipush (v := 32) (D_Text_init 39 rfl) rfl ?_
  refine j_ic_ne (tgt := 95) (D_Text_init 40 rfl) rfl (wr_lit rfl) (wr_lit rfl) (fun _ => ?_) (fun h => absurd h (by decide))
  refine j_iinc (k := 0) (x' := 131) (L' := [(2, vi 131), (1, vi 21), (0, rf X 15)]) (D_Text_init 49 rfl) rfl (by decide +kernel) (by decide) rfl ?_
  refine j_goto (tgt := 57) (D_Text_init 50 rfl) rfl ?_
  refine j_iloadn (k := 0) (D_Text_init 29 rfl) rfl rfl ?_
  refine j_ldcS (i := 0) rfl rfl (D_Text_init 30 rfl) ?_
  refine j_cKi (As := []) (c_String_length (i := 0) (by decide)) rfl lk_Text_34 mok_String_length (by decide) (by decide) rfl rfl (Nat.le_of_ble_eq_true rfl) (D_Text_init 31 rfl) (fun _ => ?_) (by decide)
  refine j_top0 (x' := 199) (by decide +kernel) ?_
  refine j_ic_ge (tgt := 101) (D_Text_init 32 rfl) rfl (wr_lit rfl) (wr_lit rfl) (fun h => absurd h (by decide)) (fun _ => ?_)
  refine j_iloadn (k := 1) (D_Text_init 33 rfl) rfl rfl ?_
  refine j_bipush (v := 36) (D_Text_init 34 rfl) rfl ?_
  refine j_ic_gt (tgt := 101) (D_Text_init 35 rfl) rfl (wr_lit rfl) (wr_lit rfl) (fun h => absurd h (by decide)) (fun _ => ?_)
  refine j_ldcS (i := 0) rfl rfl (D_Text_init 36 rfl) ?_
  refine j_iloadn (k := 0) (D_Text_init 37 rfl) rfl rfl ?_
  refine j_cKi (As := [vi 131]) (c_String_charAt (i := 0) (x := 131) (by decide) (wr_lit rfl) (by decide) (by decide)) rfl lk_Text_40 mok_String_charAt (by decide) (by decide) rfl rfl (Nat.le_of_ble_eq_true rfl) (D_Text_init 38 rfl) (fun _ => ?_) (by decide)
  refine j_top0 (x' := 32) (by decide +kernel) ?_
  refine j_bipush (v := 32) (D_Text_init 39 rfl) rfl ?_
  refine j_ic_ne (tgt := 95) (D_Text_init 40 rfl) rfl (wr_lit rfl) (wr_lit rfl) (fun h => absurd rfl h) (fun _ => ?_)
  refine j_aloadn (k := 2) (D_Text_init 41 rfl) rfl rfl ?_
  refine j_getR (t := 17) rfl fa_Text_15 kd_15 (by decide) (by decide) rfl (fun _ => by decide +kernel) (by decide) (D_Text_init 42 rfl) ?_
  refine j_iloadn (k := 1) (D_Text_init 43 rfl) rfl rfl ?_
  refine j_iloadn (k := 0) (D_Text_init 44 rfl) rfl rfl ?_
  refine j_iconst (v := 1) (D_Text_init 45 rfl) rfl ?_
  refine j_iadd (D_Text_init 46 rfl) ?_
  refine j_top0 (x' := 132) (by decide +kernel) ?_
  refine j_iast (NI := 37) (D_Text_init 47 rfl) kd_17 (by decide) (wr_lit rfl) rfl (by decide) (by decide) ?_
  refine j_iinc (k := 1) (x' := 22) (L' := [(1, vi 22), (2, vi 131), (0, rf X 15)]) (D_Text_init 48 rfl) rfl (by decide +kernel) (by decide) rfl ?_
  refine j_iinc (k := 1) (x' := 132) (L' := [(2, vi 132), (1, vi 22), (0, rf X 15)]) (D_Text_init 49 rfl) rfl (by decide +kernel) (by decide) rfl ?_
  refine j_goto (tgt := 57) (D_Text_init 50 rfl) rfl ?_
  refine j_iloadn (k := 0) (D_Text_init 29 rfl) rfl rfl ?_
  refine j_ldcS (i := 0) rfl rfl (D_Text_init 30 rfl) ?_
  refine j_cKi (As := []) (c_String_length (i := 0) (by decide)) rfl lk_Text_34 mok_String_length (by decide) (by decide) rfl rfl (Nat.le_of_ble_eq_true rfl) (D_Text_init 31 rfl) (fun _ => ?_) (by decide)
  refine j_top0 (x' := 199) (by decide +kernel) ?_
  refine j_ic_ge (tgt := 101) (D_Text_init 32 rfl) rfl (wr_lit rfl) (wr_lit rfl) (fun h => absurd h (by decide)) (fun _ => ?_)
  refine j_iloadn (k := 1) (D_Text_init 33 rfl) rfl rfl ?_
  refine j_bipush (v := 36) (D_Text_init 34 rfl) rfl ?_
  refine j_ic_gt (tgt := 101) (D_Text_init 35 rfl) rfl (wr_lit rfl) (wr_lit rfl) (fun h => absurd h (by decide)) (fun _ => ?_)
  refine j_ldcS (i := 0) rfl rfl (D_Text_init 36 rfl) ?_
  refine j_iloadn (k := 0) (D_Text_init 37 rfl) rfl rfl ?_
  refine j_cKi (As := [vi 132]) (c_String_charAt (i := 0) (x := 132) (by decide) (wr_lit rfl) (by decide) (by decide)) rfl lk_Text_40 mok_String_charAt (by decide) (by decide) rfl rfl (Nat.le_of_ble_eq_true rfl) (D_Text_init 38 rfl) (fun _ => ?_) (by decide)
  refine j_top0 (x' := 105) (by decide +kernel) ?_
  refine j_bipush (v := 32) (D_Text_init 39 rfl) rfl ?_
  refine j_ic_ne (tgt := 95) (D_Text_init 40 rfl) rfl (wr_lit rfl) (wr_lit rfl) (fun _ => ?_) (fun h => absurd h (by decide))
  refine j_iinc (k := 0) (x' := 133) (L' := [(2, vi 133), (1, vi 22), (0, rf X 15)]) (D_Text_init 49 rfl) rfl (by decide +kernel) (by decide) rfl ?_
  refine j_goto (tgt := 57) (D_Text_init 50 rfl) rfl ?_
  refine j_iloadn (k := 0) (D_Text_init 29 rfl) rfl rfl ?_
  refine j_ldcS (i := 0) rfl rfl (D_Text_init 30 rfl) ?_
  refine j_cKi (As := []) (c_String_length (i := 0) (by decide)) rfl lk_Text_34 mok_String_length (by decide) (by decide) rfl rfl (Nat.le_of_ble_eq_true rfl) (D_Text_init 31 rfl) (fun _ => ?_) (by decide)
  refine j_top0 (x' := 199) (by decide +kernel) ?_
  refine j_ic_ge (tgt := 101) (D_Text_init 32 rfl) rfl (wr_lit rfl) (wr_lit rfl) (fun h => absurd h (by decide)) (fun _ => ?_)
  refine j_iloadn (k := 1) (D_Text_init 33 rfl) rfl rfl ?_
  refine j_bipush (v := 36) (D_Text_init 34 rfl) rfl ?_
  refine j_ic_gt (tgt := 101) (D_Text_init 35 rfl) rfl (wr_lit rfl) (wr_lit rfl) (fun h => absurd h (by decide)) (fun _ => ?_)
  refine j_ldcS (i := 0) rfl rfl (D_Text_init 36 rfl) ?_
  refine j_iloadn (k := 0) (D_Text_init 37 rfl) rfl rfl ?_
  refine j_cKi (As := [vi 133]) (c_String_charAt (i := 0) (x := 133) (by decide) (wr_lit rfl) (by decide) (by decide)) rfl lk_Text_40 mok_String_charAt (by decide) (by decide) rfl rfl (Nat.le_of_ble_eq_true rfl) (D_Text_init 38 rfl) (fun _ => ?_) (by decide)
  refine j_top0 (x' := 110) (by decide +kernel) ?_
  refine j_bipush (v := 32) (D_Text_init 39 rfl) rfl ?_
  refine j_ic_ne (tgt := 95) (D_Text_init 40 rfl) rfl (wr_lit rfl) (wr_lit rfl) (fun _ => ?_) (fun h => absurd h (by decide))
  refine j_iinc (k := 0) (x' := 134) (L' := [(2, vi 134), (1, vi 22), (0, rf X 15)]) (D_Text_init 49 rfl) rfl (by decide +kernel) (by decide) rfl ?_
  refine j_goto (tgt := 57) (D_Text_init 50 rfl) rfl ?_
  refine j_iloadn (k := 0) (D_Text_init 29 rfl) rfl rfl ?_
  refine j_ldcS (i := 0) rfl rfl (D_Text_init 30 rfl) ?_
  refine j_cKi (As := []) (c_String_length (i := 0) (by decide)) rfl lk_Text_34 mok_String_length (by decide) (by decide) rfl rfl (Nat.le_of_ble_eq_true rfl) (D_Text_init 31 rfl) (fun _ => ?_) (by decide)
  refine j_top0 (x' := 199) (by decide +kernel) ?_
  refine j_ic_ge (tgt := 101) (D_Text_init 32 rfl) rfl (wr_lit rfl) (wr_lit rfl) (fun h => absurd h (by decide)) (fun _ => ?_)
  refine j_iloadn (k := 1) (D_Text_init 33 rfl) rfl rfl ?_
  refine j_bipush (v := 36) (D_Text_init 34 rfl) rfl ?_
  refine j_ic_gt (tgt := 101) (D_Text_init 35 rfl) rfl (wr_lit rfl) (wr_lit rfl) (fun h => absurd h (by decide)) (fun _ => ?_)
  refine j_ldcS (i := 0) rfl rfl (D_Text_init 36 rfl) ?_
  refine j_iloadn (k := 0) (D_Text_init 37 rfl) rfl rfl ?_
  refine j_cKi (As := [vi 134]) (c_String_charAt (i := 0) (x := 134) (by decide) (wr_lit rfl) (by decide) (by decide)) rfl lk_Text_40 mok_String_charAt (by decide) (by decide) rfl rfl (Nat.le_of_ble_eq_true rfl) (D_Text_init 38 rfl) (fun _ => ?_) (by decide)
  refine j_top0 (x' := 32) (by decide +kernel) ?_
  refine j_bipush (v := 32) (D_Text_init 39 rfl) rfl ?_
  refine j_ic_ne (tgt := 95) (D_Text_init 40 rfl) rfl (wr_lit rfl) (wr_lit rfl) (fun h => absurd rfl h) (fun _ => ?_)
  refine j_aloadn (k := 2) (D_Text_init 41 rfl) rfl rfl ?_
  refine j_getR (t := 17) rfl fa_Text_15 kd_15 (by decide) (by decide) rfl (fun _ => by decide +kernel) (by decide) (D_Text_init 42 rfl) ?_
  refine j_iloadn (k := 1) (D_Text_init 43 rfl) rfl rfl ?_
  refine j_iloadn (k := 0) (D_Text_init 44 rfl) rfl rfl ?_
  refine j_iconst (v := 1) (D_Text_init 45 rfl) rfl ?_
  refine j_iadd (D_Text_init 46 rfl) ?_
  refine j_top0 (x' := 135) (by decide +kernel) ?_
  refine j_iast (NI := 37) (D_Text_init 47 rfl) kd_17 (by decide) (wr_lit rfl) rfl (by decide) (by decide) ?_
  refine j_iinc (k := 1) (x' := 23) (L' := [(1, vi 23), (2, vi 134), (0, rf X 15)]) (D_Text_init 48 rfl) rfl (by decide +kernel) (by decide) rfl ?_
  refine j_iinc (k := 1) (x' := 135) (L' := [(2, vi 135), (1, vi 23), (0, rf X 15)]) (D_Text_init 49 rfl) rfl (by decide +kernel) (by decide) rfl ?_
  refine j_goto (tgt := 57) (D_Text_init 50 rfl) rfl ?_
  refine j_iloadn (k := 0) (D_Text_init 29 rfl) rfl rfl ?_
  refine j_ldcS (i := 0) rfl rfl (D_Text_init 30 rfl) ?_
  refine j_cKi (As := []) (c_String_length (i := 0) (by decide)) rfl lk_Text_34 mok_String_length (by decide) (by decide) rfl rfl (Nat.le_of_ble_eq_true rfl) (D_Text_init 31 rfl) (fun _ => ?_) (by decide)
  refine j_top0 (x' := 199) (by decide +kernel) ?_
  refine j_ic_ge (tgt := 101) (D_Text_init 32 rfl) rfl (wr_lit rfl) (wr_lit rfl) (fun h => absurd h (by decide)) (fun _ => ?_)
  refine j_iloadn (k := 1) (D_Text_init 33 rfl) rfl rfl ?_
  refine j_bipush (v := 36) (D_Text_init 34 rfl) rfl ?_
  refine j_ic_gt (tgt := 101) (D_Text_init 35 rfl) rfl (wr_lit rfl) (wr_lit rfl) (fun h => absurd h (by decide)) (fun _ => ?_)
  refine j_ldcS (i := 0) rfl rfl (D_Text_init 36 rfl) ?_
  refine j_iloadn (k := 0) (D_Text_init 37 rfl) rfl rfl ?_
  refine j_cKi (As := [vi 135]) (c_String_charAt (i := 0) (x := 135) (by decide) (wr_lit rfl) (by decide) (by decide)) rfl lk_Text_40 mok_String_charAt (by decide) (by decide) rfl rfl (Nat.le_of_ble_eq_true rfl) (D_Text_init 38 rfl) (fun _ => ?_) (by decide)
  refine j_top0 (x' := 117) (by decide +kernel) ?_
  refine j_bipush (v := 32) (D_Text_init 39 rfl) rfl ?_
  refine j_ic_ne (tgt := 95) (D_Text_init 40 rfl) rfl (wr_lit rfl) (wr_lit rfl) (fun _ => ?_) (fun h => absurd h (by decide))
  refine j_iinc (k := 0) (x' := 136) (L' := [(2, vi 136), (1, vi 23), (0, rf X 15)]) (D_Text_init 49 rfl) rfl (by decide +kernel) (by decide) rfl ?_
  refine j_goto (tgt := 57) (D_Text_init 50 rfl) rfl ?_
  refine j_iloadn (k := 0) (D_Text_init 29 rfl) rfl rfl ?_
  refine j_ldcS (i := 0) rfl rfl (D_Text_init 30 rfl) ?_
  refine j_cKi (As := []) (c_String_length (i := 0) (by decide)) rfl lk_Text_34 mok_String_length (by decide) (by decide) rfl rfl (Nat.le_of_ble_eq_true rfl) (D_Text_init 31 rfl) (fun _ => ?_) (by decide)
  refine j_top0 (x' := 199) (by decide +kernel) ?_
  refine j_ic_ge (tgt := 101) (D_Text_init 32 rfl) rfl (wr_lit rfl) (wr_lit rfl) (fun h => absurd h (by decide)) (fun _ => ?_)
  refine j_iloadn (k := 1) (D_Text_init 33 rfl) rfl rfl ?_
  refine j_bipush (v := 36) (D_Text_init 34 rfl) rfl ?_
  refine j_ic_gt (tgt := 101) (D_Text_init 35 rfl) rfl (wr_lit rfl) (wr_lit rfl) (fun h => absurd h (by decide)) (fun _ => ?_)
  refine j_ldcS (i := 0) rfl rfl (D_Text_init 36 rfl) ?_
  refine j_iloadn (k := 0) (D_Text_init 37 rfl) rfl rfl ?_
  refine j_cKi (As := [vi 136]) (c_String_charAt (i := 0) (x := 136) (by decide) (wr_lit rfl) (by decide) (by decide)) rfl lk_Text_40 mok_String_charAt (by decide) (by decide) rfl rfl (Nat.le_of_ble_eq_true rfl) (D_Text_init 38 rfl) (fun _ => ?_) (by decide)
  refine j_top0 (x' := 110) (by decide +kernel) ?_
  refine j_bipush (v := 32) (D_Text_init 39 rfl) rfl ?_
  refine j_ic_ne (tgt := 95) (D_Text_init 40 rfl) rfl (wr_lit rfl) (wr_lit rfl) (fun _ => ?_) (fun h => absurd h (by decide))
  refine j_iinc (k := 0) (x' := 137) (L' := [(2, vi 137), (1, vi 23), (0, rf X 15)]) (D_Text_init 49 rfl) rfl (by decide +kernel) (by decide) rfl ?_
  refine j_goto (tgt := 57) (D_Text_init 50 rfl) rfl ?_
  refine j_iloadn (k := 0) (D_Text_init 29 rfl) rfl rfl ?_
  refine j_ldcS (i := 0) rfl rfl (D_Text_init 30 rfl) ?_
  refine j_cKi (As := []) (c_String_length (i := 0) (by decide)) rfl lk_Text_34 mok_String_length (by decide) (by decide) rfl rfl (Nat.le_of_ble_eq_true rfl) (D_Text_init 31 rfl) (fun _ => ?_) (by decide)
  refine j_top0 (x' := 199) (by decide +kernel) ?_
  refine j_ic_ge (tgt := 101) (D_Text_init 32 rfl) rfl (wr_lit rfl) (wr_lit rfl) (fun h => absurd h (by decide)) (fun _ => ?_)
  refine j_iloadn (k := 1) (D_Text_init 33 rfl) rfl rfl ?_
  refine j_bipush (v := 36) (D_Text_init 34 rfl) rfl ?_
  refine j_ic_gt (tgt := 101) (D_Text_init 35 rfl) rfl (wr_lit rfl) (wr_lit rfl) (fun h => absurd h (by decide)) (fun _ => ?_)
  refine j_ldcS (i := 0) rfl rfl (D_Text_init 36 rfl) ?_
  refine j_iloadn (k := 0) (D_Text_init 37 rfl) rfl rfl ?_
  refine j_cKi (As := [vi 137]) (c_String_charAt (i := 0) (x := 137) (by decide) (wr_lit rfl) (by decide) (by decide)) rfl lk_Text_40 mok_String_charAt (by decide) (by decide) rfl rfl (Nat.le_of_ble_eq_true rfl) (D_Text_init 38 rfl) (fun _ => ?_) (by decide)
  refine j_top0 (x' := 116) (by decide +kernel) ?_
  refine j_bipush (v := 32) (D_Text_init 39 rfl) rfl ?_
  refine j_ic_ne (tgt := 95) (D_Text_init 40 rfl) rfl (wr_lit rfl) (wr_lit rfl) (fun _ => ?_) (fun h => absurd h (by decide))
  refine j_iinc (k := 0) (x' := 138) (L' := [(2, vi 138), (1, vi 23), (0, rf X 15)]) (D_Text_init 49 rfl) rfl (by decide +kernel) (by decide) rfl ?_
  refine j_goto (tgt := 57) (D_Text_init 50 rfl) rfl ?_
  refine j_iloadn (k := 0) (D_Text_init 29 rfl) rfl rfl ?_
  refine j_ldcS (i := 0) rfl rfl (D_Text_init 30 rfl) ?_
  refine j_cKi (As := []) (c_String_length (i := 0) (by decide)) rfl lk_Text_34 mok_String_length (by decide) (by decide) rfl rfl (Nat.le_of_ble_eq_true rfl) (D_Text_init 31 rfl) (fun _ => ?_) (by decide)
  refine j_top0 (x' := 199) (by decide +kernel) ?_
  refine j_ic_ge (tgt := 101) (D_Text_init 32 rfl) rfl (wr_lit rfl) (wr_lit rfl) (fun h => absurd h (by decide)) (fun _ => ?_)
  refine j_iloadn (k := 1) (D_Text_init 33 rfl) rfl rfl ?_
  refine j_bipush (v := 36) (D_Text_init 34 rfl) rfl ?_
  refine j_ic_gt (tgt := 101) (D_Text_init 35 rfl) rfl (wr_lit rfl) (wr_lit rfl) (fun h => absurd h (by decide)) (fun _ => ?_)
  refine j_ldcS (i := 0) rfl rfl (D_Text_init 36 rfl) ?_
  refine j_iloadn (k := 0) (D_Text_init 37 rfl) rfl rfl ?_
  refine j_cKi (As := [vi 138]) (c_String_charAt (i := 0) (x := 138) (by decide) (wr_lit rfl) (by decide) (by decide)) rfl lk_Text_40 mok_String_charAt (by decide) (by decide) rfl rfl (Nat.le_of_ble_eq_true rfl) (D_Text_init 38 rfl) (fun _ => ?_) (by decide)
  refine j_top0 (x' := 105) (by decide +kernel) ?_
  refine j_bipush (v := 32) (D_Text_init 39 rfl) rfl ?_
  refine j_ic_ne (tgt := 95) (D_Text_init 40 rfl) rfl (wr_lit rfl) (wr_lit rfl) (fun _ => ?_) (fun h => absurd h (by decide))
  refine j_iinc (k := 0) (x' := 139) (L' := [(2, vi 139), (1, vi 23), (0, rf X 15)]) (D_Text_init 49 rfl) rfl (by decide +kernel) (by decide) rfl ?_
  refine j_goto (tgt := 57) (D_Text_init 50 rfl) rfl ?_
  refine j_iloadn (k := 0) (D_Text_init 29 rfl) rfl rfl ?_
  refine j_ldcS (i := 0) rfl rfl (D_Text_init 30 rfl) ?_
  refine j_cKi (As := []) (c_String_length (i := 0) (by decide)) rfl lk_Text_34 mok_String_length (by decide) (by decide) rfl rfl (Nat.le_of_ble_eq_true rfl) (D_Text_init 31 rfl) (fun _ => ?_) (by decide)
  refine j_top0 (x' := 199) (by decide +kernel) ?_
  refine j_ic_ge (tgt := 101) (D_Text_init 32 rfl) rfl (wr_lit rfl) (wr_lit rfl) (fun h => absurd h (by decide)) (fun _ => ?_)
  refine j_iloadn (k := 1) (D_Text_init 33 rfl) rfl rfl ?_
  refine j_bipush (v := 36) (D_Text_init 34 rfl) rfl ?_
  refine j_ic_gt (tgt := 101) (D_Text_init 35 rfl) rfl (wr_lit rfl) (wr_lit rfl) (fun h => absurd h (by decide)) (fun _ => ?_)
  refine j_ldcS (i := 0) rfl rfl (D_Text_init 36 rfl) ?_
  refine j_iloadn (k := 0) (D_Text_init 37 rfl) rfl rfl ?_
  refine j_cKi (As := [vi 139]) (c_String_charAt (i := 0) (x := 139) (by decide) (wr_lit rfl) (by decide) (by decide)) rfl lk_Text_40 mok_String_charAt (by decide) (by decide) rfl rfl (Nat.le_of_ble_eq_true rfl) (D_Text_init 38 rfl) (fun _ => ?_) (by decide)
  refine j_top0 (x' := 108) (by decide +kernel) ?_
  refine j_bipush (v := 32) (D_Text_init 39 rfl) rfl ?_
  refine j_ic_ne (tgt := 95) (D_Text_init 40 rfl) rfl (wr_lit rfl) (wr_lit rfl) (fun _ => ?_) (fun h => absurd h (by decide))
  refine j_iinc (k := 0) (x' := 140) (L' := [(2, vi 140), (1, vi 23), (0, rf X 15)]) (D_Text_init 49 rfl) rfl (by decide +kernel) (by decide) rfl ?_
  refine j_goto (tgt := 57) (D_Text_init 50 rfl) rfl ?_
  refine j_iloadn (k := 0) (D_Text_init 29 rfl) rfl rfl ?_
  refine j_ldcS (i := 0) rfl rfl (D_Text_init 30 rfl) ?_
  refine j_cKi (As := []) (c_String_length (i := 0) (by decide)) rfl lk_Text_34 mok_String_length (by decide) (by decide) rfl rfl (Nat.le_of_ble_eq_true rfl) (D_Text_init 31 rfl) (fun _ => ?_) (by decide)
  refine j_top0 (x' := 199) (by decide +kernel) ?_
  refine j_ic_ge (tgt := 101) (D_Text_init 32 rfl) rfl (wr_lit rfl) (wr_lit rfl) (fun h => absurd h (by decide)) (fun _ => ?_)
  refine j_iloadn (k := 1) (D_Text_init 33 rfl) rfl rfl ?_
  refine j_bipush (v := 36) (D_Text_init 34 rfl) rfl ?_
  refine j_ic_gt (tgt := 101) (D_Text_init 35 rfl) rfl (wr_lit rfl) (wr_lit rfl) (fun h => absurd h (by decide)) (fun _ => ?_)
  refine j_ldcS (i := 0) rfl rfl (D_Text_init 36 rfl) ?_
  refine j_iloadn (k := 0) (D_Text_init 37 rfl) rfl rfl ?_
  refine j_cKi (As := [vi 140]) (c_String_charAt (i := 0) (x := 140) (by decide) (wr_lit rfl) (by decide) (by decide)) rfl lk_Text_40 mok_String_charAt (by decide) (by decide) rfl rfl (Nat.le_of_ble_eq_true rfl) (D_Text_init 38 rfl) (fun _ => ?_) (by decide)
  refine j_top0 (x' := 32) (by decide +kernel) ?_
  refine j_bipush (v := 32) (D_Text_init 39 rfl) rfl ?_
  refine j_ic_ne (tgt := 95) (D_Text_init 40 rfl) rfl (wr_lit rfl) (wr_lit rfl) (fun h => absurd rfl h) (fun _ => ?_)
  refine j_aloadn (k := 2) (D_Text_init 41 rfl) rfl rfl ?_
  refine j_getR (t := 17) rfl fa_Text_15 kd_15 (by decide) (by decide) rfl (fun _ => by decide +kernel) (by decide) (D_Text_init 42 rfl) ?_
  refine j_iloadn (k := 1) (D_Text_init 43 rfl) rfl rfl ?_
  refine j_iloadn (k := 0) (D_Text_init 44 rfl) rfl rfl ?_
  refine j_iconst (v := 1) (D_Text_init 45 rfl) rfl ?_
  refine j_iadd (D_Text_init 46 rfl) ?_
  refine j_top0 (x' := 141) (by decide +kernel) ?_
  refine j_iast (NI := 37) (D_Text_init 47 rfl) kd_17 (by decide) (wr_lit rfl) rfl (by decide) (by decide) ?_
  refine j_iinc (k := 1) (x' := 24) (L' := [(1, vi 24), (2, vi 140), (0, rf X 15)]) (D_Text_init 48 rfl) rfl (by decide +kernel) (by decide) rfl ?_
  refine j_iinc (k := 1) (x' := 141) (L' := [(2, vi 141), (1, vi 24), (0, rf X 15)]) (D_Text_init 49 rfl) rfl (by decide +kernel) (by decide) rfl ?_
  refine j_goto (tgt := 57) (D_Text_init 50 rfl) rfl ?_
  refine j_iloadn (k := 0) (D_Text_init 29 rfl) rfl rfl ?_
  refine j_ldcS (i := 0) rfl rfl (D_Text_init 30 rfl) ?_
  refine j_cKi (As := []) (c_String_length (i := 0) (by decide)) rfl lk_Text_34 mok_String_length (by decide) (by decide) rfl rfl (Nat.le_of_ble_eq_true rfl) (D_Text_init 31 rfl) (fun _ => ?_) (by decide)
  refine j_top0 (x' := 199) (by decide +kernel) ?_
  refine j_ic_ge (tgt := 101) (D_Text_init 32 rfl) rfl (wr_lit rfl) (wr_lit rfl) (fun h => absurd h (by decide)) (fun _ => ?_)
  refine j_iloadn (k := 1) (D_Text_init 33 rfl) rfl rfl ?_
  refine j_bipush (v := 36) (D_Text_init 34 rfl) rfl ?_
  refine j_ic_gt (tgt := 101) (D_Text_init 35 rfl) rfl (wr_lit rfl) (wr_lit rfl) (fun h => absurd h (by decide)) (fun _ => ?_)
  refine j_ldcS (i := 0) rfl rfl (D_Text_init 36 rfl) ?_
  refine j_iloadn (k := 0) (D_Text_init 37 rfl) rfl rfl ?_
  refine j_cKi (As := [vi 141]) (c_String_charAt (i := 0) (x := 141) (by decide) (wr_lit rfl) (by decide) (by decide)) rfl lk_Text_40 mok_String_charAt (by decide) (by decide) rfl rfl (Nat.le_of_ble_eq_true rfl) (D_Text_init 38 rfl) (fun _ => ?_) (by decide)
  refine j_top0 (x' := 109) (by decide +kernel) ?_
  refine j_bipush (v := 32) (D_Text_init 39 rfl) rfl ?_
  refine j_ic_ne (tgt := 95) (D_Text_init 40 rfl) rfl (wr_lit rfl) (wr_lit rfl) (fun _ => ?_) (fun h => absurd h (by decide))
  refine j_iinc (k := 0) (x' := 142) (L' := [(2, vi 142), (1, vi 24), (0, rf X 15)]) (D_Text_init 49 rfl) rfl (by decide +kernel) (by decide) rfl ?_
  refine j_goto (tgt := 57) (D_Text_init 50 rfl) rfl ?_
  refine j_iloadn (k := 0) (D_Text_init 29 rfl) rfl rfl ?_
  refine j_ldcS (i := 0) rfl rfl (D_Text_init 30 rfl) ?_
  refine j_cKi (As := []) (c_String_length (i := 0) (by decide)) rfl lk_Text_34 mok_String_length (by decide) (by decide) rfl rfl (Nat.le_of_ble_eq_true rfl) (D_Text_init 31 rfl) (fun _ => ?_) (by decide)
  refine j_top0 (x' := 199) (by decide +kernel) ?_
  refine j_ic_ge (tgt := 101) (D_Text_init 32 rfl) rfl (wr_lit rfl) (wr_lit rfl) (fun h => absurd h (by decide)) (fun _ => ?_)
  refine j_iloadn (k := 1) (D_Text_init 33 rfl) rfl rfl ?_
  refine j_bipush (v := 36) (D_Text_init 34 rfl) rfl ?_
  refine j_ic_gt (tgt := 101) (D_Text_init 35 rfl) rfl (wr_lit rfl) (wr_lit rfl) (fun h => absurd h (by decide)) (fun _ => ?_)
  refine j_ldcS (i := 0) rfl rfl (D_Text_init 36 rfl) ?_
  refine j_iloadn (k := 0) (D_Text_init 37 rfl) rfl rfl ?_
  refine j_cKi (As := [vi 142]) (c_String_charAt (i := 0) (x := 142) (by decide) (wr_lit rfl) (by decide) (by decide)) rfl lk_Text_40 mok_String_charAt (by decide) (by decide) rfl rfl (Nat.le_of_ble_eq_true rfl) (D_Text_init 38 rfl) (fun _ => ?_) (by decide)
  refine j_top0 (x' := 97) (by decide +kernel) ?_
  refine j_bipush (v := 32) (D_Text_init 39 rfl) rfl ?_
  refine j_ic_ne (tgt := 95) (D_Text_init 40 rfl) rfl (wr_lit rfl) (wr_lit rfl) (fun _ => ?_) (fun h => absurd h (by decide))
  refine j_iinc (k := 0) (x' := 143) (L' := [(2, vi 143), (1, vi 24), (0, rf X 15)]) (D_Text_init 49 rfl) rfl (by decide +kernel) (by decide) rfl ?_
  refine j_goto (tgt := 57) (D_Text_init 50 rfl) rfl ?_
  refine j_iloadn (k := 0) (D_Text_init 29 rfl) rfl rfl ?_
  refine j_ldcS (i := 0) rfl rfl (D_Text_init 30 rfl) ?_
  refine j_cKi (As := []) (c_String_length (i := 0) (by decide)) rfl lk_Text_34 mok_String_length (by decide) (by decide) rfl rfl (Nat.le_of_ble_eq_true rfl) (D_Text_init 31 rfl) (fun _ => ?_) (by decide)
  refine j_top0 (x' := 199) (by decide +kernel) ?_
  refine j_ic_ge (tgt := 101) (D_Text_init 32 rfl) rfl (wr_lit rfl) (wr_lit rfl) (fun h => absurd h (by decide)) (fun _ => ?_)
  refine j_iloadn (k := 1) (D_Text_init 33 rfl) rfl rfl ?_
  refine j_bipush (v := 36) (D_Text_init 34 rfl) rfl ?_
  refine j_ic_gt (tgt := 101) (D_Text_init 35 rfl) rfl (wr_lit rfl) (wr_lit rfl) (fun h => absurd h (by decide)) (fun _ => ?_)
  refine j_ldcS (i := 0) rfl rfl (D_Text_init 36 rfl) ?_
  refine j_iloadn (k := 0) (D_Text_init 37 rfl) rfl rfl ?_
  refine j_cKi (As := [vi 143]) (c_String_charAt (i := 0) (x := 143) (by decide) (wr_lit rfl) (by decide) (by decide)) rfl lk_Text_40 mok_String_charAt (by decide) (by decide) rfl rfl (Nat.le_of_ble_eq_true rfl) (D_Text_init 38 rfl) (fun _ => ?_) (by decide)
  refine j_top0 (x' := 105) (by decide +kernel) ?_
  refine j_bipush (v := 32) (D_Text_init 39 rfl) rfl ?_
  refine j_ic_ne (tgt := 95) (D_Text_init 40 rfl) rfl (wr_lit rfl) (wr_lit rfl) (fun _ => ?_) (fun h => absurd h (by decide))
  refine j_iinc (k := 0) (x' := 144) (L' := [(2, vi 144), (1, vi 24), (0, rf X 15)]) (D_Text_init 49 rfl) rfl (by decide +kernel) (by decide) rfl ?_
  refine j_goto (tgt := 57) (D_Text_init 50 rfl) rfl ?_
  refine j_iloadn (k := 0) (D_Text_init 29 rfl) rfl rfl ?_
  refine j_ldcS (i := 0) rfl rfl (D_Text_init 30 rfl) ?_
  refine j_cKi (As := []) (c_String_length (i := 0) (by decide)) rfl lk_Text_34 mok_String_length (by decide) (by decide) rfl rfl (Nat.le_of_ble_eq_true rfl) (D_Text_init 31 rfl) (fun _ => ?_) (by decide)
  refine j_top0 (x' := 199) (by decide +kernel) ?_
  refine j_ic_ge (tgt := 101) (D_Text_init 32 rfl) rfl (wr_lit rfl) (wr_lit rfl) (fun h => absurd h (by decide)) (fun _ => ?_)
  refine j_iloadn (k := 1) (D_Text_init 33 rfl) rfl rfl ?_
  refine j_bipush (v := 36) (D_Text_init 34 rfl) rfl ?_
  refine j_ic_gt (tgt := 101) (D_Text_init 35 rfl) rfl (wr_lit rfl) (wr_lit rfl) (fun h => absurd h (by decide)) (fun _ => ?_)
  refine j_ldcS (i := 0) rfl rfl (D_Text_init 36 rfl) ?_
  refine j_iloadn (k := 0) (D_Text_init 37 rfl) rfl rfl ?_
  refine j_cKi (As := [vi 144]) (c_String_charAt (i := 0) (x := 144) (by decide) (wr_lit rfl) (by decide) (by decide)) rfl lk_Text_40 mok_String_charAt (by decide) (by decide) rfl rfl (Nat.le_of_ble_eq_true rfl) (D_Text_init 38 rfl) (fun _ => ?_) (by decide)
  refine j_top0 (x' := 100) (by decide +kernel) ?_
  refine j_bipush (v := 32) (D_Text_init 39 rfl) rfl ?_
  refine j_ic_ne (tgt := 95) (D_Text_init 40 rfl) rfl (wr_lit rfl) (wr_lit rfl) (fun _ => ?_) (fun h => absurd h (by decide))
  refine j_iinc (k := 0) (x' := 145) (L' := [(2, vi 145), (1, vi 24), (0, rf X 15)]) (D_Text_init 49 rfl) rfl (by decide +kernel) (by decide) rfl ?_
  refine j_goto (tgt := 57) (D_Text_init 50 rfl) rfl ?_
  refine j_iloadn (k := 0) (D_Text_init 29 rfl) rfl rfl ?_
  refine j_ldcS (i := 0) rfl rfl (D_Text_init 30 rfl) ?_
  refine j_cKi (As := []) (c_String_length (i := 0) (by decide)) rfl lk_Text_34 mok_String_length (by decide) (by decide) rfl rfl (Nat.le_of_ble_eq_true rfl) (D_Text_init 31 rfl) (fun _ => ?_) (by decide)
  refine j_top0 (x' := 199) (by decide +kernel) ?_
  refine j_ic_ge (tgt := 101) (D_Text_init 32 rfl) rfl (wr_lit rfl) (wr_lit rfl) (fun h => absurd h (by decide)) (fun _ => ?_)
  refine j_iloadn (k := 1) (D_Text_init 33 rfl) rfl rfl ?_
  refine j_bipush (v := 36) (D_Text_init 34 rfl) rfl ?_
  refine j_ic_gt (tgt := 101) (D_Text_init 35 rfl) rfl (wr_lit rfl) (wr_lit rfl) (fun h => absurd h (by decide)) (fun _ => ?_)
  refine j_ldcS (i := 0) rfl rfl (D_Text_init 36 rfl) ?_
  refine j_iloadn (k := 0) (D_Text_init 37 rfl) rfl rfl ?_
  refine j_cKi (As := [vi 145]) (c_String_charAt (i := 0) (x := 145) (by decide) (wr_lit rfl) (by decide) (by decide)) rfl lk_Text_40 mok_String_charAt (by decide) (by decide) rfl rfl (Nat.le_of_ble_eq_true rfl) (D_Text_init 38 rfl) (fun _ => ?_) (by decide)
  refine j_top0 (x' := 32) (by decide +kernel) ?_
  refine j_bipush (v := 32) (D_Text_init 39 rfl) rfl ?_
  refine j_ic_ne (tgt := 95) (D_Text_init 40 rfl) rfl (wr_lit rfl) (wr_lit rfl) (fun h => absurd rfl h) (fun _ => ?_)
  refine j_aloadn (k := 2) (D_Text_init 41 rfl) rfl rfl ?_
  refine j_getR (t := 17) rfl fa_Text_15 kd_15 (by decide) (by decide) rfl (fun _ => by decide +kernel) (by decide) (D_Text_init 42 rfl) ?_
  refine j_iloadn (k := 1) (D_Text_init 43 rfl) rfl rfl ?_
  refine j_iloadn (k := 0) (D_Text_init 44 rfl) rfl rfl ?_
  refine j_iconst (v := 1) (D_Text_init 45 rfl) rfl ?_
  refine j_iadd (D_Text_init 46 rfl) ?_
  refine j_top0 (x' := 146) (by decide +kernel) ?_
  refine j_iast (NI := 37) (D_Text_init 47 rfl) kd_17 (by decide) (wr_lit rfl) rfl (by decide) (by decide) ?_
  refine j_iinc (k := 1) (x' := 25) (L' := [(1, vi 25), (2, vi 145), (0, rf X 15)]) (D_Text_init 48 rfl) rfl (by decide +kernel) (by decide) rfl ?_
  refine j_iinc (k := 1) (x' := 146) (L' := [(2, vi 146), (1, vi 25), (0, rf X 15)]) (D_Text_init 49 rfl) rfl (by decide +kernel) (by decide) rfl ?_
  refine j_goto (tgt := 57) (D_Text_init 50 rfl) rfl ?_
  refine j_iloadn (k := 0) (D_Text_init 29 rfl) rfl rfl ?_
  refine j_ldcS (i := 0) rfl rfl (D_Text_init 30 rfl) ?_
  refine j_cKi (As := []) (c_String_length (i := 0) (by decide)) rfl lk_Text_34 mok_String_length (by decide) (by decide) rfl rfl (Nat.le_of_ble_eq_true rfl) (D_Text_init 31 rfl) (fun _ => ?_) (by decide)
  refine j_top0 (x' := 199) (by decide +kernel) ?_
  refine j_ic_ge (tgt := 101) (D_Text_init 32 rfl) rfl (wr_lit rfl) (wr_lit rfl) (fun h => absurd h (by decide)) (fun _ => ?_)
  refine j_iloadn (k := 1) (D_Text_init 33 rfl) rfl rfl ?_
  refine j_bipush (v := 36) (D_Text_init 34 rfl) rfl ?_
  refine j_ic_gt (tgt := 101) (D_Text_init 35 rfl) rfl (wr_lit rfl) (wr_lit rfl) (fun h => absurd h (by decide)) (fun _ => ?_)
  refine j_ldcS (i := 0) rfl rfl (D_Text_init 36 rfl) ?_
  refine j_iloadn (k := 0) (D_Text_init 37 rfl) rfl rfl ?_
  refine j_cKi (As := [vi 146]) (c_String_charAt (i := 0) (x := 146) (by decide) (wr_lit rfl) (by decide) (by decide)) rfl lk_Text_40 mok_String_charAt (by decide) (by decide) rfl rfl (Nat.le_of_ble_eq_true rfl) (D_Text_init 38 rfl) (fun _ => ?_) (by decide)
  refine j_top0 (x' := 116) (by decide +kernel) ?_
  refine j_bipush (v := 32) (D_Text_init 39 rfl) rfl ?_
  refine j_ic_ne (tgt := 95) (D_Text_init 40 rfl) rfl (wr_lit rfl) (wr_lit rfl) (fun _ => ?_) (fun h => absurd h (by decide))
  refine j_iinc (k := 0) (x' := 147) (L' := [(2, vi 147), (1, vi 25), (0, rf X 15)]) (D_Text_init 49 rfl) rfl (by decide +kernel) (by decide) rfl ?_
  refine j_goto (tgt := 57) (D_Text_init 50 rfl) rfl ?_
  refine j_iloadn (k := 0) (D_Text_init 29 rfl) rfl rfl ?_
  refine j_ldcS (i := 0) rfl rfl (D_Text_init 30 rfl) ?_
  refine j_cKi (As := []) (c_String_length (i := 0) (by decide)) rfl lk_Text_34 mok_String_length (by decide) (by decide) rfl rfl (Nat.le_of_ble_eq_true rfl) (D_Text_init 31 rfl) (fun _ => ?_) (by decide)
  refine j_top0 (x' := 199) (by decide +kernel) ?_
  refine j_ic_ge (tgt := 101) (D_Text_init 32 rfl) rfl (wr_lit rfl) (wr_lit rfl) (fun h => absurd h (by decide)) (fun _ => ?_)
  refine j_iloadn (k := 1) (D_Text_init 33 rfl) rfl rfl ?_
  refine j_bipush (v := 36) (D_Text_init 34 rfl) rfl ?_
  refine j_ic_gt (tgt := 101) (D_Text_init 35 rfl) rfl (wr_lit rfl) (wr_lit rfl) (fun h => absurd h (by decide)) (fun _ => ?_)
  refine j_ldcS (i := 0) rfl rfl (D_Text_init 36 rfl) ?_
  refine j_iloadn (k := 0) (D_Text_init 37 rfl) rfl rfl ?_
  refine j_cKi (As := [vi 147]) (c_String_charAt (i := 0) (x := 147) (by decide) (wr_lit rfl) (by decide) (by decide)) rfl lk_Text_40 mok_String_charAt (by decide) (by decide) rfl rfl (Nat.le_of_ble_eq_true rfl) (D_Text_init 38 rfl) (fun _ => ?_) (by decide)
  refine j_top0 (x' := 111) (by decide +kernel) ?_
  refine j_bipush (v := 32) (D_Text_init 39 rfl) rfl ?_
  refine j_ic_ne (tgt := 95) (D_Text_init 40 rfl) rfl (wr_lit rfl) (wr_lit rfl) (fun _ => ?_) (fun h => absurd h (by decide))
  refine j_iinc (k := 0) (x' := 148) (L' := [(2, vi 148), (1, vi 25), (0, rf X 15)]) (D_Text_init 49 rfl) rfl (by decide +kernel) (by decide) rfl ?_
  refine j_goto (tgt := 57) (D_Text_init 50 rfl) rfl ?_
  refine j_iloadn (k := 0) (D_Text_init 29 rfl) rfl rfl ?_
  refine j_ldcS (i := 0) rfl rfl (D_Text_init 30 rfl) ?_
  refine j_cKi (As := []) (c_String_length (i := 0) (by decide)) rfl lk_Text_34 mok_String_length (by decide) (by decide) rfl rfl (Nat.le_of_ble_eq_true rfl) (D_Text_init 31 rfl) (fun _ => ?_) (by decide)
  refine j_top0 (x' := 199) (by decide +kernel) ?_
  refine j_ic_ge (tgt := 101) (D_Text_init 32 rfl) rfl (wr_lit rfl) (wr_lit rfl) (fun h => absurd h (by decide)) (fun _ => ?_)
  refine j_iloadn (k := 1) (D_Text_init 33 rfl) rfl rfl ?_
  refine j_bipush (v := 36) (D_Text_init 34 rfl) rfl ?_
  refine j_ic_gt (tgt := 101) (D_Text_init 35 rfl) rfl (wr_lit rfl) (wr_lit rfl) (fun h => absurd h (by decide)) (fun _ => ?_)
  refine j_ldcS (i := 0) rfl rfl (D_Text_init 36 rfl) ?_
  refine j_iloadn (k := 0) (D_Text_init 37 rfl) rfl rfl ?_
  refine j_cKi (As := [vi 148]) (c_String_charAt (i := 0) (x := 148) (by decide) (wr_lit rfl) (by decide) (by decide)) rfl lk_Text_40 mok_String_charAt (by decide) (by decide) rfl rfl (Nat.le_of_ble_eq_true rfl) (D_Text_init 38 rfl) (fun _ => ?_) (by decide)
  refine j_top0 (x' := 32) (by decide +kernel) ?_
  refine j_bipush (v := 32) (D_Text_init 39 rfl) rfl ?_
  refine j_ic_ne (tgt := 95) (D_Text_init 40 rfl) rfl (wr_lit rfl) (wr_lit rfl) (fun h => absurd rfl h) (fun _ => ?_)
  refine j_aloadn (k := 2) (D_Text_init 41 rfl) rfl rfl ?_
  refine j_getR (t := 17) rfl fa_Text_15 kd_15 (by decide) (by decide) rfl (fun _ => by decide +kernel) (by decide) (D_Text_init 42 rfl) ?_
  refine j_iloadn (k := 1) (D_Text_init 43 rfl) rfl rfl ?_
  refine j_iloadn (k := 0) (D_Text_init 44 rfl) rfl rfl ?_
  refine j_iconst (v := 1) (D_Text_init 45 rfl) rfl ?_
  refine j_iadd (D_Text_init 46 rfl) ?_
  refine j_top0 (x' := 149) (by decide +kernel) ?_
  refine j_iast (NI := 37) (D_Text_init 47 rfl) kd_17 (by decide) (wr_lit rfl) rfl (by decide) (by decide) ?_
  refine j_iinc (k := 1) (x' := 26) (L' := [(1, vi 26), (2, vi 148), (0, rf X 15)]) (D_Text_init 48 rfl) rfl (by decide +kernel) (by decide) rfl ?_
  refine j_iinc (k := 1) (x' := 149) (L' := [(2, vi 149), (1, vi 26), (0, rf X 15)]) (D_Text_init 49 rfl) rfl (by decide +kernel) (by decide) rfl ?_
  refine j_goto (tgt := 57) (D_Text_init 50 rfl) rfl ?_
  refine j_iloadn (k := 0) (D_Text_init 29 rfl) rfl rfl ?_
  refine j_ldcS (i := 0) rfl rfl (D_Text_init 30 rfl) ?_
  refine j_cKi (As := []) (c_String_length (i := 0) (by decide)) rfl lk_Text_34 mok_String_length (by decide) (by decide) rfl rfl (Nat.le_of_ble_eq_true rfl) (D_Text_init 31 rfl) (fun _ => ?_) (by decide)
  refine j_top0 (x' := 199) (by decide +kernel) ?_
  refine j_ic_ge (tgt := 101) (D_Text_init 32 rfl) rfl (wr_lit rfl) (wr_lit rfl) (fun h => absurd h (by decide)) (fun _ => ?_)
  refine j_iloadn (k := 1) (D_Text_init 33 rfl) rfl rfl ?_
  refine j_bipush (v := 36) (D_Text_init 34 rfl) rfl ?_
  refine j_ic_gt (tgt := 101) (D_Text_init 35 rfl) rfl (wr_lit rfl) (wr_lit rfl) (fun h => absurd h (by decide)) (fun _ => ?_)
  refine j_ldcS (i := 0) rfl rfl (D_Text_init 36 rfl) ?_
  refine j_iloadn (k := 0) (D_Text_init 37 rfl) rfl rfl ?_
  refine j_cKi (As := [vi 149]) (c_String_charAt (i := 0) (x := 149) (by decide) (wr_lit rfl) (by decide) (by decide)) rfl lk_Text_40 mok_String_charAt (by decide) (by decide) rfl rfl (Nat.le_of_ble_eq_true rfl) (D_Text_init 38 rfl) (fun _ => ?_) (by decide)
  refine j_top0 (x' := 111) (by decide +kernel) ?_
  refine j_bipush (v := 32) (D_Text_init 39 rfl) rfl ?_
  refine j_ic_ne (tgt := 95) (D_Text_init 40 rfl) rfl (wr_lit rfl) (wr_lit rfl) (fun _ => ?_) (fun h => absurd h (by decide))
  refine j_iinc (k := 0) (x' := 150) (L' := [(2, vi 150), (1, vi 26), (0, rf X 15)]) (D_Text_init 49 rfl) rfl (by decide +kernel) (by decide) rfl ?_
  refine j_goto (tgt := 57) (D_Text_init 50 rfl) rfl ?_
  refine j_iloadn (k := 0) (D_Text_init 29 rfl) rfl rfl ?_
  refine j_ldcS (i := 0) rfl rfl (D_Text_init 30 rfl) ?_
  refine j_cKi (As := []) (c_String_length (i := 0) (by decide)) rfl lk_Text_34 mok_String_length (by decide) (by decide) rfl rfl (Nat.le_of_ble_eq_true rfl) (D_Text_init 31 rfl) (fun _ => ?_) (by decide)
  refine j_top0 (x' := 199) (by decide +kernel) ?_
  refine j_ic_ge (tgt := 101) (D_Text_init 32 rfl) rfl (wr_lit rfl) (wr_lit rfl) (fun h => absurd h (by decide)) (fun _ => ?_)
  refine j_iloadn (k := 1) (D_Text_init 33 rfl) rfl rfl ?_
  refine j_bipush (v := 36) (D_Text_init 34 rfl) rfl ?_
  refine j_ic_gt (tgt := 101) (D_Text_init 35 rfl) rfl (wr_lit rfl) (wr_lit rfl) (fun h => absurd h (by decide)) (fun _ => ?_)
  refine j_ldcS (i := 0) rfl rfl (D_Text_init 36 rfl) ?_
  refine j_iloadn (k := 0) (D_Text_init 37 rfl) rfl rfl ?_
  refine j_cKi (As := [vi 150]) (c_String_charAt (i := 0) (x := 150) (by decide) (wr_lit rfl) (by decide) (by decide)) rfl lk_Text_40 mok_String_charAt (by decide) (by decide) rfl rfl (Nat.le_of_ble_eq_true rfl) (D_Text_init 38 rfl) (fun _ => ?_) (by decide)
  refine j_top0 (x' := 102) (by decide +kernel) ?_
  refine j_bipush (v := 32) (D_Text_init 39 rfl) rfl ?_
  refine j_ic_ne (tgt := 95) (D_Text_init 40 rfl) rfl (wr_lit rfl) (wr_lit rfl) (fun _ => ?_) (fun h => absurd h (by decide))
  refine j_iinc (k := 0) (x' := 151) (L' := [(2, vi 151), (1, vi 26), (0, rf X 15)]) (D_Text_init 49 rfl) rfl (by decide +kernel) (by decide) rfl ?_
  refine j_goto (tgt := 57) (D_Text_init 50 rfl) rfl ?_
  refine j_iloadn (k := 0) (D_Text_init 29 rfl) rfl rfl ?_
  refine j_ldcS (i := 0) rfl rfl (D_Text_init 30 rfl) ?_
  refine j_cKi (As := []) (c_String_length (i := 0) (by decide)) rfl lk_Text_34 mok_String_length (by decide) (by decide) rfl rfl (Nat.le_of_ble_eq_true rfl) (D_Text_init 31 rfl) (fun _ => ?_) (by decide)
  refine j_top0 (x' := 199) (by decide +kernel) ?_
  refine j_ic_ge (tgt := 101) (D_Text_init 32 rfl) rfl (wr_lit rfl) (wr_lit rfl) (fun h => absurd h (by decide)) (fun _ => ?_)
  refine j_iloadn (k := 1) (D_Text_init 33 rfl) rfl rfl ?_
  refine j_bipush (v := 36) (D_Text_init 34 rfl) rfl ?_
  refine j_ic_gt (tgt := 101) (D_Text_init 35 rfl) rfl (wr_lit rfl) (wr_lit rfl) (fun h => absurd h (by decide)) (fun _ => ?_)
  refine j_ldcS (i := 0) rfl rfl (D_Text_init 36 rfl) ?_
  refine j_iloadn (k := 0) (D_Text_init 37 rfl) rfl rfl ?_
  refine j_cKi (As := [vi 151]) (c_String_charAt (i := 0) (x := 151) (by decide) (wr_lit rfl) (by decide) (by decide)) rfl lk_Text_40 mok_String_charAt (by decide) (by decide) rfl rfl (Nat.le_of_ble_eq_true rfl) (D_Text_init 38 rfl) (fun _ => ?_) (by decide)
  refine j_top0 (x' := 32) (by decide +kernel) ?_
  refine j_bipush (v := 32) (D_Text_init 39 rfl) rfl ?_
  refine j_ic_ne (tgt := 95) (D_Text_init 40 rfl) rfl (wr_lit rfl) (wr_lit rfl) (fun h => absurd rfl h) (fun _ => ?_)
  refine j_aloadn (k := 2) (D_Text_init 41 rfl) rfl rfl ?_
  refine j_getR (t := 17) rfl fa_Text_15 kd_15 (by decide) (by decide) rfl (fun _ => by decide +kernel) (by decide) (D_Text_init 42 rfl) ?_
  refine j_iloadn (k := 1) (D_Text_init 43 rfl) rfl rfl ?_
  refine j_iloadn (k := 0) (D_Text_init 44 rfl) rfl rfl ?_
  refine j_iconst (v := 1) (D_Text_init 45 rfl) rfl ?_
  refine j_iadd (D_Text_init 46 rfl) ?_
  refine j_top0 (x' := 152) (by decide +kernel) ?_
  refine j_iast (NI := 37) (D_Text_init 47 rfl) kd_17 (by decide) (wr_lit rfl) rfl (by decide) (by decide) ?_
  refine j_iinc (k := 1) (x' := 27) (L' := [(1, vi 27), (2, vi 151), (0, rf X 15)]) (D_Text_init 48 rfl) rfl (by decide +kernel) (by decide) rfl ?_
  refine j_iinc (k := 1) (x' := 152) (L' := [(2, vi 152), (1, vi 27), (0, rf X 15)]) (D_Text_init 49 rfl) rfl (by decide +kernel) (by decide) rfl ?_
  refine j_goto (tgt := 57) (D_Text_init 50 rfl) rfl ?_
  refine j_iloadn (k := 0) (D_Text_init 29 rfl) rfl rfl ?_
  refine j_ldcS (i := 0) rfl rfl (D_Text_init 30 rfl) ?_
  refine j_cKi (As := []) (c_String_length (i := 0) (by decide)) rfl lk_Text_34 mok_String_length (by decide) (by decide) rfl rfl (Nat.le_of_ble_eq_true rfl) (D_Text_init 31 rfl) (fun _ => ?_) (by decide)
  refine j_top0 (x' := 199) (by decide +kernel) ?_
  refine j_ic_ge (tgt := 101) (D_Text_init 32 rfl) rfl (wr_lit rfl) (wr_lit rfl) (fun h => absurd h (by decide)) (fun _ => ?_)
  refine j_iloadn (k := 1) (D_Text_init 33 rfl) rfl rfl ?_
  refine j_bipush (v := 36) (D_Text_init 34 rfl) rfl ?_
  refine j_ic_gt (tgt := 101) (D_Text_init 35 rfl) rfl (wr_lit rfl) (wr_lit rfl) (fun h => absurd h (by decide)) (fun _ => ?_)
  refine j_ldcS (i := 0) rfl rfl (D_Text_init 36 rfl) ?_
  refine j_iloadn (k := 0) (D_Text_init 37 rfl) rfl rfl ?_
  refine j_cKi (As := [vi 152]) (c_String_charAt (i := 0) (x := 152) (by decide) (wr_lit rfl) (by decide) (by decide)) rfl lk_Text_40 mok_String_charAt (by decide) (by decide) rfl rfl (Nat.le_of_ble_eq_true rfl) (D_Text_init 38 rfl) (fun _ => ?_) (by decide)
  refine j_top0 (x' := 119) (by decide +kernel) ?_
  refine j_bipush (v := 32) (D_Text_init 39 rfl) rfl ?_
  refine j_ic_ne (tgt := 95) (D_Text_init 40 rfl) rfl (wr_lit rfl) (wr_lit rfl) (fun _ => ?_) (fun h => absurd h (by decide))
  refine j_iinc (k := 0) (x' := 153) (L' := [(2, vi 153), (1, vi 27), (0, rf X 15)]) (D_Text_init 49 rfl) rfl (by decide +kernel) (by decide) rfl ?_
  refine j_goto (tgt := 57) (D_Text_init 50 rfl) rfl ?_
  refine j_iloadn (k := 0) (D_Text_init 29 rfl) rfl rfl ?_
  refine j_ldcS (i := 0) rfl rfl (D_Text_init 30 rfl) ?_
  refine j_cKi (As := []) (c_String_length (i := 0) (by decide)) rfl lk_Text_34 mok_String_length (by decide) (by decide) rfl rfl (Nat.le_of_ble_eq_true rfl) (D_Text_init 31 rfl) (fun _ => ?_) (by decide)
  refine j_top0 (x' := 199) (by decide +kernel) ?_
  refine j_ic_ge (tgt := 101) (D_Text_init 32 rfl) rfl (wr_lit rfl) (wr_lit rfl) (fun h => absurd h (by decide)) (fun _ => ?_)
  refine j_iloadn (k := 1) (D_Text_init 33 rfl) rfl rfl ?_
  refine j_bipush (v := 36) (D_Text_init 34 rfl) rfl ?_
  refine j_ic_gt (tgt := 101) (D_Text_init 35 rfl) rfl (wr_lit rfl) (wr_lit rfl) (fun h => absurd h (by decide)) (fun _ => ?_)
  refine j_ldcS (i := 0) rfl rfl (D_Text_init 36 rfl) ?_
  refine j_iloadn (k := 0) (D_Text_init 37 rfl) rfl rfl ?_
  refine j_cKi (As := [vi 153]) (c_String_charAt (i := 0) (x := 153) (by decide) (wr_lit rfl) (by decide) (by decide)) rfl lk_Text_40 mok_String_charAt (by decide) (by decide) rfl rfl (Nat.le_of_ble_eq_true rfl) (D_Text_init 38 rfl) (fun _ => ?_) (by decide)
  refine j_top0 (x' := 104) (by decide +kernel) ?_
  refine j_bipush (v := 32) (D_Text_init 39 rfl) rfl ?_
  refine j_ic_ne (tgt := 95) (D_Text_init 40 rfl) rfl (wr_lit rfl) (wr_lit rfl) (fun _ => ?_) (fun h => absurd h (by decide))
  refine j_iinc (k := 0) (x' := 154) (L' := [(2, vi 154), (1, vi 27), (0, rf X 15)]) (D_Text_init 49 rfl) rfl (by decide +kernel) (by decide) rfl ?_
  refine j_goto (tgt := 57) (D_Text_init 50 rfl) rfl ?_
  refine j_iloadn (k := 0) (D_Text_init 29 rfl) rfl rfl ?_
  refine j_ldcS (i := 0) rfl rfl (D_Text_init 30 rfl) ?_
  refine j_cKi (As := []) (c_String_length (i := 0) (by decide)) rfl lk_Text_34 mok_String_length (by decide) (by decide) rfl rfl (Nat.le_of_ble_eq_true rfl) (D_Text_init 31 rfl) (fun _ => ?_) (by decide)
  refine j_top0 (x' := 199) (by decide +kernel) ?_
  refine j_ic_ge (tgt := 101) (D_Text_init 32 rfl) rfl (wr_lit rfl) (wr_lit rfl) (fun h => absurd h (by decide)) (fun _ => ?_)
  refine j_iloadn (k := 1) (D_Text_init 33 rfl) rfl rfl ?_
  refine j_bipush (v := 36) (D_Text_init 34 rfl) rfl ?_
  refine j_ic_gt (tgt := 101) (D_Text_init 35 rfl) rfl (wr_lit rfl) (wr_lit rfl) (fun h => absurd h (by decide)) (fun _ => ?_)
  refine j_ldcS (i := 0) rfl rfl (D_Text_init 36 rfl) ?_
  refine j_iloadn (k := 0) (D_Text_init 37 rfl) rfl rfl ?_
  refine j_cKi (As := [vi 154]) (c_String_charAt (i := 0) (x := 154) (by decide) (wr_lit rfl) (by decide) (by decide)) rfl lk_Text_40 mok_String_charAt (by decide) (by decide) rfl rfl (Nat.le_of_ble_eq_true rfl) (D_Text_init 38 rfl) (fun _ => ?_) (by decide)
  refine j_top0 (x' := 101) (by decide +kernel) ?_
  refine j_bipush (v := 32) (D_Text_init 39 rfl) rfl ?_
  refine j_ic_ne (tgt := 95) (D_Text_init 40 rfl) rfl (wr_lit rfl) (wr_lit rfl) (fun _ => ?_) (fun h => absurd h (by decide))
  refine j_iinc (k := 0) (x' := 155) (L' := [(2, vi 155), (1, vi 27), (0, rf X 15)]) (D_Text_init 49 rfl) rfl (by decide +kernel) (by decide) rfl ?_
  refine j_goto (tgt := 57) (D_Text_init 50 rfl) rfl ?_
  refine j_iloadn (k := 0) (D_Text_init 29 rfl) rfl rfl ?_
  refine j_ldcS (i := 0) rfl rfl (D_Text_init 30 rfl) ?_
  refine j_cKi (As := []) (c_String_length (i := 0) (by decide)) rfl lk_Text_34 mok_String_length (by decide) (by decide) rfl rfl (Nat.le_of_ble_eq_true rfl) (D_Text_init 31 rfl) (fun _ => ?_) (by decide)
  refine j_top0 (x' := 199) (by decide +kernel) ?_
  refine j_ic_ge (tgt := 101) (D_Text_init 32 rfl) rfl (wr_lit rfl) (wr_lit rfl) (fun h => absurd h (by decide)) (fun _ => ?_)
  refine j_iloadn (k := 1) (D_Text_init 33 rfl) rfl rfl ?_
  refine j_bipush (v := 36) (D_Text_init 34 rfl) rfl ?_
  refine j_ic_gt (tgt := 101) (D_Text_init 35 rfl) rfl (wr_lit rfl) (wr_lit rfl) (fun h => absurd h (by decide)) (fun _ => ?_)
  refine j_ldcS (i := 0) rfl rfl (D_Text_init 36 rfl) ?_
  refine j_iloadn (k := 0) (D_Text_init 37 rfl) rfl rfl ?_
  refine j_cKi (As := [vi 155]) (c_String_charAt (i := 0) (x := 155) (by decide) (wr_lit rfl) (by decide) (by decide)) rfl lk_Text_40 mok_String_charAt (by decide) (by decide) rfl rfl (Nat.le_of_ble_eq_true rfl) (D_Text_init 38 rfl) (fun _ => ?_) (by decide)
  refine j_top0 (x' := 110) (by decide +kernel) ?_
  refine j_bipush (v := 32) (D_Text_init 39 rfl) rfl ?_
  refine j_ic_ne (tgt := 95) (D_Text_init 40 rfl) rfl (wr_lit rfl) (wr_lit rfl) (fun _ => ?_) (fun h => absurd h (by decide))
  refine j_iinc (k := 0) (x' := 156) (L' := [(2, vi 156), (1, vi 27), (0, rf X 15)]) (D_Text_init 49 rfl) rfl (by decide +kernel) (by decide) rfl ?_
  refine j_goto (tgt := 57) (D_Text_init 50 rfl) rfl ?_
  refine j_iloadn (k := 0) (D_Text_init 29 rfl) rfl rfl ?_
  refine j_ldcS (i := 0) rfl rfl (D_Text_init 30 rfl) ?_
  refine j_cKi (As := []) (c_String_length (i := 0) (by decide)) rfl lk_Text_34 mok_String_length (by decide) (by decide) rfl rfl (Nat.le_of_ble_eq_true rfl) (D_Text_init 31 rfl) (fun _ => ?_) (by decide)
  refine j_top0 (x' := 199) (by decide +kernel) ?_
  refine j_ic_ge (tgt := 101) (D_Text_init 32 rfl) rfl (wr_lit rfl) (wr_lit rfl) (fun h => absurd h (by decide)) (fun _ => ?_)
  refine j_iloadn (k := 1) (D_Text_init 33 rfl) rfl rfl ?_
  refine j_bipush (v := 36) (D_Text_init 34 rfl) rfl ?_
  refine j_ic_gt (tgt := 101) (D_Text_init 35 rfl) rfl (wr_lit rfl) (wr_lit rfl) (fun h => absurd h (by decide)) (fun _ => ?_)
  refine j_ldcS (i := 0) rfl rfl (D_Text_init 36 rfl) ?_
  refine j_iloadn (k := 0) (D_Text_init 37 rfl) rfl rfl ?_
  refine j_cKi (As := [vi 156]) (c_String_charAt (i := 0) (x := 156) (by decide) (wr_lit rfl) (by decide) (by decide)) rfl lk_Text_40 mok_String_charAt (by decide) (by decide) rfl rfl (Nat.le_of_ble_eq_true rfl) (D_Text_init 38 rfl) (fun _ => ?_) (by decide)
  refine j_top0 (x' := 32) (by decide +kernel) ?_
  refine j_bipush (v := 32) (D_Text_init 39 rfl) rfl ?_
  refine j_ic_ne (tgt := 95) (D_Text_init 40 rfl) rfl (wr_lit rfl) (wr_lit rfl) (fun h => absurd rfl h) (fun _ => ?_)
  refine j_aloadn (k := 2) (D_Text_init 41 rfl) rfl rfl ?_
  refine j_getR (t := 17) rfl fa_Text_15 kd_15 (by decide) (by decide) rfl (fun _ => by decide +kernel) (by decide) (D_Text_init 42 rfl) ?_
  refine j_iloadn (k := 1) (D_Text_init 43 rfl) rfl rfl ?_
  refine j_iloadn (k := 0) (D_Text_init 44 rfl) rfl rfl ?_
  refine j_iconst (v := 1) (D_Text_init 45 rfl) rfl ?_
  refine j_iadd (D_Text_init 46 rfl) ?_
  refine j_top0 (x' := 157) (by decide +kernel) ?_
  refine j_iast (NI := 37) (D_Text_init 47 rfl) kd_17 (by decide) (wr_lit rfl) rfl (by decide) (by decide) ?_
  refine j_iinc (k := 1) (x' := 28) (L' := [(1, vi 28), (2, vi 156), (0, rf X 15)]) (D_Text_init 48 rfl) rfl (by decide +kernel) (by decide) rfl ?_
  refine j_iinc (k := 1) (x' := 157) (L' := [(2, vi 157), (1, vi 28), (0, rf X 15)]) (D_Text_init 49 rfl) rfl (by decide +kernel) (by decide) rfl ?_
  refine j_goto (tgt := 57) (D_Text_init 50 rfl) rfl ?_
  refine j_iloadn (k := 0) (D_Text_init 29 rfl) rfl rfl ?_
  refine j_ldcS (i := 0) rfl rfl (D_Text_init 30 rfl) ?_
  refine j_cKi (As := []) (c_String_length (i := 0) (by decide)) rfl lk_Text_34 mok_String_length (by decide) (by decide) rfl rfl (Nat.le_of_ble_eq_true rfl) (D_Text_init 31 rfl) (fun _ => ?_) (by decide)
  refine j_top0 (x' := 199) (by decide +kernel) ?_
  refine j_ic_ge (tgt := 101) (D_Text_init 32 rfl) rfl (wr_lit rfl) (wr_lit rfl) (fun h => absurd h (by decide)) (fun _ => ?_)
  refine j_iloadn (k := 1) (D_Text_init 33 rfl) rfl rfl ?_
  refine j_bipush (v := 36) (D_Text_init 34 rfl) rfl ?_
  refine j_ic_gt (tgt := 101) (D_Text_init 35 rfl) rfl (wr_lit rfl) (wr_lit rfl) (fun h => absurd h (by decide)) (fun _ => ?_)
  refine j_ldcS (i := 0) rfl rfl (D_Text_init 36 rfl) ?_
  refine j_iloadn (k := 0) (D_Text_init 37 rfl) rfl rfl ?_
  refine j_cKi (As := [vi 157]) (c_String_charAt (i := 0) (x := 157) (by decide) (wr_lit rfl) (by decide) (by decide)) rfl lk_Text_40 mok_String_charAt (by decide) (by decide) rfl rfl (Nat.le_of_ble_eq_true rfl) (D_Text_init 38 rfl) (fun _ => ?_) (by decide)
  refine j_top0 (x' := 111) (by decide +kernel) ?_
  refine j_bipush (v := 32) (D_Text_init 39 rfl) rfl ?_
  refine j_ic_ne (tgt := 95) (D_Text_init 40 rfl) rfl (wr_lit rfl) (wr_lit rfl) (fun _ => ?_) (fun h => absurd h (by decide))
  refine j_iinc (k := 0) (x' := 158) (L' := [(2, vi 158), (1, vi 28), (0, rf X 15)]) (D_Text_init 49 rfl) rfl (by decide +kernel) (by decide) rfl ?_
  refine j_goto (tgt := 57) (D_Text_init 50 rfl) rfl ?_
  refine j_iloadn (k := 0) (D_Text_init 29 rfl) rfl rfl ?_
  refine j_ldcS (i := 0) rfl rfl (D_Text_init 30 rfl) ?_
  refine j_cKi (As := []) (c_String_length (i := 0) (by decide)) rfl lk_Text_34 mok_String_length (by decide) (by decide) rfl rfl (Nat.le_of_ble_eq_true rfl) (D_Text_init 31 rfl) (fun _ => ?_) (by decide)
  refine j_top0 (x' := 199) (by decide +kernel) ?_
  refine j_ic_ge (tgt := 101) (D_Text_init 32 rfl) rfl (wr_lit rfl) (wr_lit rfl) (fun h => absurd h (by decide)) (fun _ => ?_)
  refine j_iloadn (k := 1) (D_Text_init 33 rfl) rfl rfl ?_
  refine j_bipush (v := 36) (D_Text_init 34 rfl) rfl ?_
  refine j_ic_gt (tgt := 101) (D_Text_init 35 rfl) rfl (wr_lit rfl) (wr_lit rfl) (fun h => absurd h (by decide)) (fun _ => ?_)
  refine j_ldcS (i := 0) rfl rfl (D_Text_init 36 rfl) ?_
  refine j_iloadn (k := 0) (D_Text_init 37 rfl) rfl rfl ?_
  refine j_cKi (As := [vi 158]) (c_String_charAt (i := 0) (x := 158) (by decide) (wr_lit rfl) (by decide) (by decide)) rfl lk_Text_40 mok_String_charAt (by decide) (by decide) rfl rfl (Nat.le_of_ble_eq_true rfl) (D_Text_init 38 rfl) (fun _ => ?_) (by decide)
  refine j_top0 (x' := 114) (by decide +kernel) ?_
  refine j_bipush (v := 32) (D_Text_init 39 rfl) rfl ?_
  refine j_ic_ne (tgt := 95) (D_Text_init 40 rfl) rfl (wr_lit rfl) (wr_lit rfl) (fun _ => ?_) (fun h => absurd h (by decide))
  refine j_iinc (k := 0) (x' := 159) (L' := [(2, vi 159), (1, vi 28), (0, rf X 15)]) (D_Text_init 49 rfl) rfl (by decide +kernel) (by decide) rfl ?_
  refine j_goto (tgt := 57) (D_Text_init 50 rfl) rfl ?_
  refine j_iloadn (k := 0) (D_Text_init 29 rfl) rfl rfl ?_
  refine j_ldcS (i := 0) rfl rfl (D_Text_init 30 rfl) ?_
  refine j_cKi (As := []) (c_String_length (i := 0) (by decide)) rfl lk_Text_34 mok_String_length (by decide) (by decide) rfl rfl (Nat.le_of_ble_eq_true rfl) (D_Text_init 31 rfl) (fun _ => ?_) (by decide)
  refine j_top0 (x' := 199) (by decide +kernel) ?_
  refine j_ic_ge (tgt := 101) (D_Text_init 32 rfl) rfl (wr_lit rfl) (wr_lit rfl) (fun h => absurd h (by decide)) (fun _ => ?_)
  refine j_iloadn (k := 1) (D_Text_init 33 rfl) rfl rfl ?_
  refine j_bipush (v := 36) (D_Text_init 34 rfl) rfl ?_
  refine j_ic_gt (tgt := 101) (D_Text_init 35 rfl) rfl (wr_lit rfl) (wr_lit rfl) (fun h => absurd h (by decide)) (fun _ => ?_)
  refine j_ldcS (i := 0) rfl rfl (D_Text_init 36 rfl) ?_
  refine j_iloadn (k := 0) (D_Text_init 37 rfl) rfl rfl ?_
  refine j_cKi (As := [vi 159]) (c_String_charAt (i := 0) (x := 159) (by decide) (wr_lit rfl) (by decide) (by decide)) rfl lk_Text_40 mok_String_charAt (by decide) (by decide) rfl rfl (Nat.le_of_ble_eq_true rfl) (D_Text_init 38 rfl) (fun _ => ?_) (by decide)
  refine j_top0 (x' := 32) (by decide +kernel) ?_
  refine j_bipush (v := 32) (D_Text_init 39 rfl) rfl ?_
  refine j_ic_ne (tgt := 95) (D_Text_init 40 rfl) rfl (wr_lit rfl) (wr_lit rfl) (fun h => absurd rfl h) (fun _ => ?_)
  refine j_aloadn (k := 2) (D_Text_init 41 rfl) rfl rfl ?_
  refine j_getR (t := 17) rfl fa_Text_15 kd_15 (by decide) (by decide) rfl (fun _ => by decide +kernel) (by decide) (D_Text_init 42 rfl) ?_
  refine j_iloadn (k := 1) (D_Text_init 43 rfl) rfl rfl ?_
  refine j_iloadn (k := 0) (D_Text_init 44 rfl) rfl rfl ?_
  refine j_iconst (v := 1) (D_Text_init 45 rfl) rfl ?_
  refine j_iadd (D_Text_init 46 rfl) ?_
  refine j_top0 (x' := 160) (by decide +kernel) ?_
  refine j_iast (NI := 37) (D_Text_init 47 rfl) kd_17 (by decide) (wr_lit rfl) rfl (by decide) (by decide) ?_
  refine j_iinc (k := 1) (x' := 29) (L' := [(1, vi 29), (2, vi 159), (0, rf X 15)]) (D_Text_init 48 rfl) rfl (by decide +kernel) (by decide) rfl ?_
  refine j_iinc (k := 1) (x' := 160) (L' := [(2, vi 160), (1, vi 29), (0, rf X 15)]) (D_Text_init 49 rfl) rfl (by decide +kernel) (by decide) rfl ?_
  refine j_goto (tgt := 57) (D_Text_init 50 rfl) rfl ?_
  refine j_iloadn (k := 0) (D_Text_init 29 rfl) rfl rfl ?_
  refine j_ldcS (i := 0) rfl rfl (D_Text_init 30 rfl) ?_
  refine j_cKi (As := []) (c_String_length (i := 0) (by decide)) rfl lk_Text_34 mok_String_length (by decide) (by decide) rfl rfl (Nat.le_of_ble_eq_true rfl) (D_Text_init 31 rfl) (fun _ => ?_) (by decide)
  refine j_top0 (x' := 199) (by decide +kernel) ?_
  refine j_ic_ge (tgt := 101) (D_Text_init 32 rfl) rfl (wr_lit rfl) (wr_lit rfl) (fun h => absurd h (by decide)) (fun _ => ?_)
  refine j_iloadn (k := 1) (D_Text_init 33 rfl) rfl rfl ?_
  refine j_bipush (v := 36) (D_Text_init 34 rfl) rfl ?_
  refine j_ic_gt (tgt := 101) (D_Text_init 35 rfl) rfl (wr_lit rfl) (wr_lit rfl) (fun h => absurd h (by decide)) (fun _ => ?_)
  refine j_ldcS (i := 0) rfl rfl (D_Text_init 36 rfl) ?_
  refine j_iloadn (k := 0) (D_Text_init 37 rfl) rfl rfl ?_
  refine j_cKi (As := [vi 160]) (c_String_charAt (i := 0) (x := 160) (by decide) (wr_lit rfl) (by decide) (by decide)) rfl lk_Text_40 mok_String_charAt (by decide) (by decide) rfl rfl (Nat.le_of_ble_eq_true rfl) (D_Text_init 38 rfl) (fun _ => ?_) (by decide)
  refine j_top0 (x' := 97) (by decide +kernel) ?_
  refine j_bipush (v := 32) (D_Text_init 39 rfl) rfl ?_
  refine j_ic_ne (tgt := 95) (D_Text_init 40 rfl) rfl (wr_lit rfl) (wr_lit rfl) (fun _ => ?_) (fun h => absurd h (by decide))
  refine j_iinc (k := 0) (x' := 161) (L' := [(2, vi 161), (1, vi 29), (0, rf X 15)]) (D_Text_init 49 rfl) rfl (by decide +kernel) (by decide) rfl ?_
  refine j_goto (tgt := 57) (D_Text_init 50 rfl) rfl ?_
  refine j_iloadn (k := 0) (D_Text_init 29 rfl) rfl rfl ?_
  refine j_ldcS (i := 0) rfl rfl (D_Text_init 30 rfl) ?_
  refine j_cKi (As := []) (c_String_length (i := 0) (by decide)) rfl lk_Text_34 mok_String_length (by decide) (by decide) rfl rfl (Nat.le_of_ble_eq_true rfl) (D_Text_init 31 rfl) (fun _ => ?_) (by decide)
  refine j_top0 (x' := 199) (by decide +kernel) ?_
  refine j_ic_ge (tgt := 101) (D_Text_init 32 rfl) rfl (wr_lit rfl) (wr_lit rfl) (fun h => absurd h (by decide)) (fun _ => ?_)
  refine j_iloadn (k := 1) (D_Text_init 33 rfl) rfl rfl ?_
  refine j_bipush (v := 36) (D_Text_init 34 rfl) rfl ?_
  refine j_ic_gt (tgt := 101) (D_Text_init 35 rfl) rfl (wr_lit rfl) (wr_lit rfl) (fun h => absurd h (by decide)) (fun _ => ?_)
  refine j_ldcS (i := 0) rfl rfl (D_Text_init 36 rfl) ?_
  refine j_iloadn (k := 0) (D_Text_init 37 rfl) rfl rfl ?_
  refine j_cKi (As := [vi 161]) (c_String_charAt (i := 0) (x := 161) (by decide) (wr_lit rfl) (by decide) (by decide)) rfl lk_Text_40 mok_String_charAt (by decide) (by decide) rfl rfl (Nat.le_of_ble_eq_true rfl) (D_Text_init 38 rfl) (fun _ => ?_) (by decide)
  refine j_top0 (x' := 110) (by decide +kernel) ?_
  refine j_bipush (v := 32) (D_Text_init 39 rfl) rfl ?_
  refine j_ic_ne (tgt := 95) (D_Text_init 40 rfl) rfl (wr_lit rfl) (wr_lit rfl) (fun _ => ?_) (fun h => absurd h (by decide))
  refine j_iinc (k := 0) (x' := 162) (L' := [(2, vi 162), (1, vi 29), (0, rf X 15)]) (D_Text_init 49 rfl) rfl (by decide +kernel) (by decide) rfl ?_
  refine j_goto (tgt := 57) (D_Text_init 50 rfl) rfl ?_
  refine j_iloadn (k := 0) (D_Text_init 29 rfl) rfl rfl ?_
  refine j_ldcS (i := 0) rfl rfl (D_Text_init 30 rfl) ?_
  refine j_cKi (As := []) (c_String_length (i := 0) (by decide)) rfl lk_Text_34 mok_String_length (by decide) (by decide) rfl rfl (Nat.le_of_ble_eq_true rfl) (D_Text_init 31 rfl) (fun _ => ?_) (by decide)
  refine j_top0 (x' := 199) (by decide +kernel) ?_
  refine j_ic_ge (tgt := 101) (D_Text_init 32 rfl) rfl (wr_lit rfl) (wr_lit rfl) (fun h => absurd h (by decide)) (fun _ => ?_)
  refine j_iloadn (k := 1) (D_Text_init 33 rfl) rfl rfl ?_
  refine j_bipush (v := 36) (D_Text_init 34 rfl) rfl ?_
  refine j_ic_gt (tgt := 101) (D_Text_init 35 rfl) rfl (wr_lit rfl) (wr_lit rfl) (fun h => absurd h (by decide)) (fun _ => ?_)
  refine j_ldcS (i := 0) rfl rfl (D_Text_init 36 rfl) ?_
  refine j_iloadn (k := 0) (D_Text_init 37 rfl) rfl rfl ?_
  refine j_cKi (As := [vi 162]) (c_String_charAt (i := 0) (x := 162) (by decide) (wr_lit rfl) (by decide) (by decide)) rfl lk_Text_40 mok_String_charAt (by decide) (by decide) rfl rfl (Nat.le_of_ble_eq_true rfl) (D_Text_init 38 rfl) (fun _ => ?_) (by decide)
  refine j_top0 (x' := 100) (by decide +kernel) ?_
  refine j_bipush (v := 32) (D_Text_init 39 rfl) rfl ?_
  refine j_ic_ne (tgt := 95) (D_Text_init 40 rfl) rfl (wr_lit rfl) (wr_lit rfl) (fun _ => ?_) (fun h => absurd h (by decide))
  refine j_iinc (k := 0) (x' := 163) (L' := [(2, vi 163), (1, vi 29), (0, rf X 15)]) (D_Text_init 49 rfl) rfl (by decide +kernel) (by decide) rfl ?_
  refine j_goto (tgt := 57) (D_Text_init 50 rfl) rfl ?_
  refine j_iloadn (k := 0) (D_Text_init 29 rfl) rfl rfl ?_
  refine j_ldcS (i := 0) rfl rfl (D_Text_init 30 rfl) ?_
  refine j_cKi (As := []) (c_String_length (i := 0) (by decide)) rfl lk_Text_34 mok_String_length (by decide) (by decide) rfl rfl (Nat.le_of_ble_eq_true rfl) (D_Text_init 31 rfl) (fun _ => ?_) (by decide)
  refine j_top0 (x' := 199) (by decide +kernel) ?_
  refine j_ic_ge (tgt := 101) (D_Text_init 32 rfl) rfl (wr_lit rfl) (wr_lit rfl) (fun h => absurd h (by decide)) (fun _ => ?_)
  refine j_iloadn (k := 1) (D_Text_init 33 rfl) rfl rfl ?_
  refine j_bipush (v := 36) (D_Text_init 34 rfl) rfl ?_
  refine j_ic_gt (tgt := 101) (D_Text_init 35 rfl) rfl (wr_lit rfl) (wr_lit rfl) (fun h => absurd h (by decide)) (fun _ => ?_)
  refine j_ldcS (i := 0) rfl rfl (D_Text_init 36 rfl) ?_
  refine j_iloadn (k := 0) (D_Text_init 37 rfl) rfl rfl ?_
  refine j_cKi (As := [vi 163]) (c_String_charAt (i := 0) (x := 163) (by decide) (wr_lit rfl) (by decide) (by decide)) rfl lk_Text_40 mok_String_charAt (by decide) (by decide) rfl rfl (Nat.le_of_ble_eq_true rfl) (D_Text_init 38 rfl) (fun _ => ?_) (by decide)
  refine j_top0 (x' := 32) (by decide +kernel) ?_
  refine j_bipush (v := 32) (D_Text_init 39 rfl) rfl ?_
  refine j_ic_ne (tgt := 95) (D_Text_init 40 rfl) rfl (wr_lit rfl) (wr_lit rfl) (fun h => absurd rfl h) (fun _ => ?_)
  refine j_aloadn (k := 2) (D_Text_init 41 rfl) rfl rfl ?_
  refine j_getR (t := 17) rfl fa_Text_15 kd_15 (by decide) (by decide) rfl (fun _ => by decide +kernel) (by decide) (D_Text_init 42 rfl) ?_
  refine j_iloadn (k := 1) (D_Text_init 43 rfl) rfl rfl ?_
  refine j_iloadn (k := 0) (D_Text_init 44 rfl) rfl rfl ?_
  refine j_iconst (v := 1) (D_Text_init 45 rfl) rfl ?_
  refine j_iadd (D_Text_init 46 rfl) ?_
  refine j_top0 (x' := 164) (by decide +kernel) ?_
  refine j_iast (NI := 37) (D_Text_init 47 rfl) kd_17 (by decide) (wr_lit rfl) rfl (by decide) (by decide) ?_
  refine j_iinc (k := 1) (x' := 30) (L' := [(1, vi 30), (2, vi 163), (0, rf X 15)]) (D_Text_init 48 rfl) rfl (by decide +kernel) (by decide) rfl ?_
  refine j_iinc (k := 1) (x' := 164) (L' := [(2, vi 164), (1, vi 30), (0, rf X 15)]) (D_Text_init 49 rfl) rfl (by decide +kernel) (by decide) rfl ?_
  refine j_goto (tgt := 57) (D_Text_init 50 rfl) rfl ?_
  refine j_iloadn (k := 0) (D_Text_init 29 rfl) rfl rfl ?_
  refine j_ldcS (i := 0) rfl rfl (D_Text_init 30 rfl) ?_
  refine j_cKi (As := []) (c_String_length (i := 0) (by decide)) rfl lk_Text_34 mok_String_length (by decide) (by decide) rfl rfl (Nat.le_of_ble_eq_true rfl) (D_Text_init 31 rfl) (fun _ => ?_) (by decide)
  refine j_top0 (x' := 199) (by decide +kernel) ?_
  refine j_ic_ge (tgt := 101) (D_Text_init 32 rfl) rfl (wr_lit rfl) (wr_lit rfl) (fun h => absurd h (by decide)) (fun _ => ?_)
  refine j_iloadn (k := 1) (D_Text_init 33 rfl) rfl rfl ?_
  refine j_bipush (v := 36) (D_Text_init 34 rfl) rfl ?_
  refine j_ic_gt (tgt := 101) (D_Text_init 35 rfl) rfl (wr_lit rfl) (wr_lit rfl) (fun h => absurd h (by decide)) (fun _ => ?_)
  refine j_ldcS (i := 0) rfl rfl (D_Text_init 36 rfl) ?_
  refine j_iloadn (k := 0) (D_Text_init 37 rfl) rfl rfl ?_
  refine j_cKi (As := [vi 164]) (c_String_charAt (i := 0) (x := 164) (by decide) (wr_lit rfl) (by decide) (by decide)) rfl lk_Text_40 mok_String_charAt (by decide) (by decide) rfl rfl (Nat.le_of_ble_eq_true rfl) (D_Text_init 38 rfl) (fun _ => ?_) (by decide)
  refine j_top0 (x' := 110) (by decide +kernel) ?_
  refine j_bipush (v := 32) (D_Text_init 39 rfl) rfl ?_
  refine j_ic_ne (tgt := 95) (D_Text_init 40 rfl) rfl (wr_lit rfl) (wr_lit rfl) (fun _ => ?_) (fun h => absurd h (by decide))
  refine j_iinc (k := 0) (x' := 165) (L' := [(2, vi 165), (1, vi 30), (0, rf X 15)]) (D_Text_init 49 rfl) rfl (by decide +kernel) (by decide) rfl ?_
  refine j_goto (tgt := 57) (D_Text_init 50 rfl) rfl ?_
  refine j_iloadn (k := 0) (D_Text_init 29 rfl) rfl rfl ?_
  refine j_ldcS (i := 0) rfl rfl (D_Text_init 30 rfl) ?_
  refine j_cKi (As := []) (c_String_length (i := 0) (by decide)) rfl lk_Text_34 mok_String_length (by decide) (by decide) rfl rfl (Nat.le_of_ble_eq_true rfl) (D_Text_init 31 rfl) (fun _ => ?_) (by decide)
  refine j_top0 (x' := 199) (by decide +kernel) ?_
  refine j_ic_ge (tgt := 101) (D_Text_init 32 rfl) rfl (wr_lit rfl) (wr_lit rfl) (fun h => absurd h (by decide)) (fun _ => ?_)
  refine j_iloadn (k := 1) (D_Text_init 33 rfl) rfl rfl ?_
  refine j_bipush (v := 36) (D_Text_init 34 rfl) rfl ?_
  refine j_ic_gt (tgt := 101) (D_Text_init 35 rfl) rfl (wr_lit rfl) (wr_lit rfl) (fun h => absurd h (by decide)) (fun _ => ?_)
  refine j_ldcS (i := 0) rfl rfl (D_Text_init 36 rfl) ?_
  refine j_iloadn (k := 0) (D_Text_init 37 rfl) rfl rfl ?_
  refine j_cKi (As := [vi 165]) (c_String_charAt (i := 0) (x := 165) (by decide) (wr_lit rfl) (by decide) (by decide)) rfl lk_Text_40 mok_String_charAt (by decide) (by decide) rfl rfl (Nat.le_of_ble_eq_true rfl) (D_Text_init 38 rfl) (fun _ => ?_) (by decide)
  refine j_top0 (x' := 111) (by decide +kernel) ?_
  refine j_bipush (v := 32) (D_Text_init 39 rfl) rfl ?_
  refine j_ic_ne (tgt := 95) (D_Text_init 40 rfl) rfl (wr_lit rfl) (wr_lit rfl) (fun _ => ?_) (fun h => absurd h (by decide))
  refine j_iinc (k := 0) (x' := 166) (L' := [(2, vi 166), (1, vi 30), (0, rf X 15)]) (D_Text_init 49 rfl) rfl (by decide +kernel) (by decide) rfl ?_
  refine j_goto (tgt := 57) (D_Text_init 50 rfl) rfl ?_
  refine j_iloadn (k := 0) (D_Text_init 29 rfl) rfl rfl ?_
  refine j_ldcS (i := 0) rfl rfl (D_Text_init 30 rfl) ?_
  refine j_cKi (As := []) (c_String_length (i := 0) (by decide)) rfl lk_Text_34 mok_String_length (by decide) (by decide) rfl rfl (Nat.le_of_ble_eq_true rfl) (D_Text_init 31 rfl) (fun _ => ?_) (by decide)
  refine j_top0 (x' := 199) (by decide +kernel) ?_
  refine j_ic_ge (tgt := 101) (D_Text_init 32 rfl) rfl (wr_lit rfl) (wr_lit rfl) (fun h => absurd h (by decide)) (fun _ => ?_)
  refine j_iloadn (k := 1) (D_Text_init 33 rfl) rfl rfl ?_
  refine j_bipush (v := 36) (D_Text_init 34 rfl) rfl ?_
  refine j_ic_gt (tgt := 101) (D_Text_init 35 rfl) rfl (wr_lit rfl) (wr_lit rfl) (fun h => absurd h (by decide)) (fun _ => ?_)
  refine j_ldcS (i := 0) rfl rfl (D_Text_init 36 rfl) ?_
  refine j_iloadn (k := 0) (D_Text_init 37 rfl) rfl rfl ?_
  refine j_cKi (As := [vi 166]) (c_String_charAt (i := 0) (x := 166) (by decide) (wr_lit rfl) (by decide) (by decide)) rfl lk_Text_40 mok_String_charAt (by decide) (by decide) rfl rfl (Nat.le_of_ble_eq_true rfl) (D_Text_init 38 rfl) (fun _ => ?_) (by decide)
  refine j_top0 (x' := 116) (by decide +kernel) ?_
  refine j_bipush (v := 32) (D_Text_init 39 rfl) rfl ?_
  refine j_ic_ne (tgt := 95) (D_Text_init 40 rfl) rfl (wr_lit rfl) (wr_lit rfl) (fun _ => ?_) (fun h => absurd h (by decide))
  refine j_iinc (k := 0) (x' := 167) (L' := [(2, vi 167), (1, vi 30), (0, rf X 15)]) (D_Text_init 49 rfl) rfl (by decide +kernel) (by decide) rfl ?_
  refine j_goto (tgt := 57) (D_Text_init 50 rfl) rfl ?_
  refine j_iloadn (k := 0) (D_Text_init 29 rfl) rfl rfl ?_
  refine j_ldcS (i := 0) rfl rfl (D_Text_init 30 rfl) ?_
  refine j_cKi (As := []) (c_String_length (i := 0) (by decide)) rfl lk_Text_34 mok_String_length (by decide) (by decide) rfl rfl (Nat.le_of_ble_eq_true rfl) (D_Text_init 31 rfl) (fun _ => ?_) (by decide)
  refine j_top0 (x' := 199) (by decide +kernel) ?_
  refine j_ic_ge (tgt := 101) (D_Text_init 32 rfl) rfl (wr_lit rfl) (wr_lit rfl) (fun h => absurd h (by decide)) (fun _ => ?_)
  refine j_iloadn (k := 1) (D_Text_init 33 rfl) rfl rfl ?_
  refine j_bipush (v := 36) (D_Text_init 34 rfl) rfl ?_
  refine j_ic_gt (tgt := 101) (D_Text_init 35 rfl) rfl (wr_lit rfl) (wr_lit rfl) (fun h => absurd h (by decide)) (fun _ => ?_)
  refine j_ldcS (i := 0) rfl rfl (D_Text_init 36 rfl) ?_
  refine j_iloadn (k := 0) (D_Text_init 37 rfl) rfl rfl ?_
  refine j_cKi (As := [vi 167]) (c_String_charAt (i := 0) (x := 167) (by decide) (wr_lit rfl) (by decide) (by decide)) rfl lk_Text_40 mok_String_charAt (by decide) (by decide) rfl rfl (Nat.le_of_ble_eq_true rfl) (D_Text_init 38 rfl) (fun _ => ?_) (by decide)
  refine j_top0 (x' := 32) (by decide +kernel) ?_
  refine j_bipush (v := 32) (D_Text_init 39 rfl) rfl ?_
  refine j_ic_ne (tgt := 95) (D_Text_init 40 rfl) rfl (wr_lit rfl) (wr_lit rfl) (fun h => absurd rfl h) (fun _ => ?_)
  refine j_aloadn (k := 2) (D_Text_init 41 rfl) rfl rfl ?_
  refine j_getR (t := 17) rfl fa_Text_15 kd_15 (by decide) (by decide) rfl (fun _ => by decide +kernel) (by decide) (D_Text_init 42 rfl) ?_
  refine j_iloadn (k := 1) (D_Text_init 43 rfl) rfl rfl ?_
  refine j_iloadn (k := 0) (D_Text_init 44 rfl) rfl rfl ?_
  refine j_iconst (v := 1) (D_Text_init 45 rfl) rfl ?_
  refine j_iadd (D_Text_init 46 rfl) ?_
  refine j_top0 (x' := 168) (by decide +kernel) ?_
  refine j_iast (NI := 37) (D_Text_init 47 rfl) kd_17 (by decide) (wr_lit rfl) rfl (by decide) (by decide) ?_
  refine j_iinc (k := 1) (x' := 31) (L' := [(1, vi 31), (2, vi 167), (0, rf X 15)]) (D_Text_init 48 rfl) rfl (by decide +kernel) (by decide) rfl ?_
  refine j_iinc (k := 1) (x' := 168) (L' := [(2, vi 168), (1, vi 31), (0, rf X 15)]) (D_Text_init 49 rfl) rfl (by decide +kernel) (by decide) rfl ?_
  refine j_goto (tgt := 57) (D_Text_init 50 rfl) rfl ?_
  refine j_iloadn (k := 0) (D_Text_init 29 rfl) rfl rfl ?_
  refine j_ldcS (i := 0) rfl rfl (D_Text_init 30 rfl) ?_
  refine j_cKi (As := []) (c_String_length (i := 0) (by decide)) rfl lk_Text_34 mok_String_length (by decide) (by decide) rfl rfl (Nat.le_of_ble_eq_true rfl) (D_Text_init 31 rfl) (fun _ => ?_) (by decide)
  refine j_top0 (x' := 199) (by decide +kernel) ?_
  refine j_ic_ge (tgt := 101) (D_Text_init 32 rfl) rfl (wr_lit rfl) (wr_lit rfl) (fun h => absurd h (by decide)) (fun _ => ?_)
  refine j_iloadn (k := 1) (D_Text_init 33 rfl) rfl rfl ?_
  refine j_bipush (v := 36) (D_Text_init 34 rfl) rfl ?_
  refine j_ic_gt (tgt := 101) (D_Text_init 35 rfl) rfl (wr_lit rfl) (wr_lit rfl) (fun h => absurd h (by decide)) (fun _ => ?_)
  refine j_ldcS (i := 0) rfl rfl (D_Text_init 36 rfl) ?_
  refine j_iloadn (k := 0) (D_Text_init 37 rfl) rfl rfl ?_
  refine j_cKi (As := [vi 168]) (c_String_charAt (i := 0) (x := 168) (by decide) (wr_lit rfl) (by decide) (by decide)) rfl lk_Text_40 mok_String_charAt (by decide) (by decide) rfl rfl (Nat.le_of_ble_eq_true rfl) (D_Text_init 38 rfl) (fun _ => ?_) (by decide)
  refine j_top0 (x' := 98) (by decide +kernel) ?_
  refine j_bipush (v := 32) (D_Text_init 39 rfl) rfl ?_
  refine j_ic_ne (tgt := 95) (D_Text_init 40 rfl) rfl (wr_lit rfl) (wr_lit rfl) (fun _ => ?_) (fun h => absurd h (by decide))
  refine j_iinc (k := 0) (x' := 169) (L' := [(2, vi 169), (1, vi 31), (0, rf X 15)]) (D_Text_init 49 rfl) rfl (by decide +kernel) (by decide) rfl ?_
  refine j_goto (tgt := 57) (D_Text_init 50 rfl) rfl ?_
  refine j_iloadn (k := 0) (D_Text_init 29 rfl) rfl rfl ?_
  refine j_ldcS (i := 0) rfl rfl (D_Text_init 30 rfl) ?_
  refine j_cKi (As := []) (c_String_length (i := 0) (by decide)) rfl lk_Text_34 mok_String_length (by decide) (by decide) rfl rfl (Nat.le_of_ble_eq_true rfl) (D_Text_init 31 rfl) (fun _ => ?_) (by decide)
  refine j_top0 (x' := 199) (by decide +kernel) ?_
  refine j_ic_ge (tgt := 101) (D_Text_init 32 rfl) rfl (wr_lit rfl) (wr_lit rfl) (fun h => absurd h (by decide)) (fun _ => ?_)
  refine j_iloadn (k := 1) (D_Text_init 33 rfl) rfl rfl ?_
  refine j_bipush (v := 36) (D_Text_init 34 rfl) rfl ?_
  refine j_ic_gt (tgt := 101) (D_Text_init 35 rfl) rfl (wr_lit rfl) (wr_lit rfl) (fun h => absurd h (by decide)) (fun _ => ?_)
  refine j_ldcS (i := 0) rfl rfl (D_Text_init 36 rfl) ?_
  refine j_iloadn (k := 0) (D_Text_init 37 rfl) rfl rfl ?_
  refine j_cKi (As := [vi 169]) (c_String_charAt (i := 0) (x := 169) (by decide) (wr_lit rfl) (by decide) (by decide)) rfl lk_Text_40 mok_String_charAt (by decide) (by decide) rfl rfl (Nat.le_of_ble_eq_true rfl) (D_Text_init 38 rfl) (fun _ => ?_) (by decide)
  refine j_top0 (x' := 101) (by decide +kernel) ?_
  refine j_bipush (v := 32) (D_Text_init 39 rfl) rfl ?_
  refine j_ic_ne (tgt := 95) (D_Text_init 40 rfl) rfl (wr_lit rfl) (wr_lit rfl) (fun _ => ?_) (fun h => absurd h (by decide))
  refine j_iinc (k := 0) (x' := 170) (L' := [(2, vi 170), (1, vi 31), (0, rf X 15)]) (D_Text_init 49 rfl) rfl (by decide +kernel) (by decide) rfl ?_
  refine j_goto (tgt := 57) (D_Text_init 50 rfl) rfl ?_
  refine j_iloadn (k := 0) (D_Text_init 29 rfl) rfl rfl ?_
  refine j_ldcS (i := 0) rfl rfl (D_Text_init 30 rfl) ?_
  refine j_cKi (As := []) (c_String_length (i := 0) (by decide)) rfl lk_Text_34 mok_String_length (by decide) (by decide) rfl rfl (Nat.le_of_ble_eq_true rfl) (D_Text_init 31 rfl) (fun _ => ?_) (by decide)
  refine j_top0 (x' := 199) (by decide +kernel) ?_
  refine j_ic_ge (tgt := 101) (D_Text_init 32 rfl) rfl (wr_lit rfl) (wr_lit rfl) (fun h => absurd h (by decide)) (fun _ => ?_)
  refine j_iloadn (k := 1) (D_Text_init 33 rfl) rfl rfl ?_
  refine j_bipush (v := 36) (D_Text_init 34 rfl) rfl ?_
  refine j_ic_gt (tgt := 101) (D_Text_init 35 rfl) rfl (wr_lit rfl) (wr_lit rfl) (fun h => absurd h (by decide)) (fun _ => ?_)
  refine j_ldcS (i := 0) rfl rfl (D_Text_init 36 rfl) ?_
  refine j_iloadn (k := 0) (D_Text_init 37 rfl) rfl rfl ?_
  refine j_cKi (As := [vi 170]) (c_String_charAt (i := 0) (x := 170) (by decide) (wr_lit rfl) (by decide) (by decide)) rfl lk_Text_40 mok_String_charAt (by decide) (by decide) rfl rfl (Nat.le_of_ble_eq_true rfl) (D_Text_init 38 rfl) (fun _ => ?_) (by decide)
  refine j_top0 (x' := 102) (by decide +kernel) ?_
  refine j_bipush (v := 32) (D_Text_init 39 rfl) rfl ?_
  refine j_ic_ne (tgt := 95) (D_Text_init 40 rfl) rfl (wr_lit rfl) (wr_lit rfl) (fun _ => ?_) (fun h => absurd h (by decide))
  refine j_iinc (k := 0) (x' := 171) (L' := [(2, vi 171), (1, vi 31), (0, rf X 15)]) (D_Text_init 49 rfl) rfl (by decide +kernel) (by decide) rfl ?_
  refine j_goto (tgt := 57) (D_Text_init 50 rfl) rfl ?_
  refine j_iloadn (k := 0) (D_Text_init 29 rfl) rfl rfl ?_
  refine j_ldcS (i := 0) rfl rfl (D_Text_init 30 rfl) ?_
  refine j_cKi (As := []) (c_String_length (i := 0) (by decide)) rfl lk_Text_34 mok_String_length (by decide) (by decide) rfl rfl (Nat.le_of_ble_eq_true rfl) (D_Text_init 31 rfl) (fun _ => ?_) (by decide)
  refine j_top0 (x' := 199) (by decide +kernel) ?_
  refine j_ic_ge (tgt := 101) (D_Text_init 32 rfl) rfl (wr_lit rfl) (wr_lit rfl) (fun h => absurd h (by decide)) (fun _ => ?_)
  refine j_iloadn (k := 1) (D_Text_init 33 rfl) rfl rfl ?_
  refine j_bipush (v := 36) (D_Text_init 34 rfl) rfl ?_
  refine j_ic_gt (tgt := 101) (D_Text_init 35 rfl) rfl (wr_lit rfl) (wr_lit rfl) (fun h => absurd h (by decide)) (fun _ => ?_)
  refine j_ldcS (i := 0) rfl rfl (D_Text_init 36 rfl) ?_
  refine j_iloadn (k := 0) (D_Text_init 37 rfl) rfl rfl ?_
  refine j_cKi (As := [vi 171]) (c_String_charAt (i := 0) (x := 171) (by decide) (wr_lit rfl) (by decide) (by decide)) rfl lk_Text_40 mok_String_charAt (by decide) (by decide) rfl rfl (Nat.le_of_ble_eq_true rfl) (D_Text_init 38 rfl) (fun _ => ?_) (by decide)
  refine j_top0 (x' := 111) (by decide +kernel) ?_
  refine j_bipush (v := 32) (D_Text_init 39 rfl) rfl ?_
  refine j_ic_ne (tgt := 95) (D_Text_init 40 rfl) rfl (wr_lit rfl) (wr_lit rfl) (fun _ => ?_) (fun h => absurd h (by decide))
  refine j_iinc (k := 0) (x' := 172) (L' := [(2, vi 172), (1, vi 31), (0, rf X 15)]) (D_Text_init 49 rfl) rfl (by decide +kernel) (by decide) rfl ?_
  refine j_goto (tgt := 57) (D_Text_init 50 rfl) rfl ?_
  refine j_iloadn (k := 0) (D_Text_init 29 rfl) rfl rfl ?_
  refine j_ldcS (i := 0) rfl rfl (D_Text_init 30 rfl) ?_
  refine j_cKi (As := []) (c_String_length (i := 0) (by decide)) rfl lk_Text_34 mok_String_length (by decide) (by decide) rfl rfl (Nat.le_of_ble_eq_true rfl) (D_Text_init 31 rfl) (fun _ => ?_) (by decide)
  refine j_top0 (x' := 199) (by decide +kernel) ?_
  refine j_ic_ge (tgt := 101) (D_Text_init 32 rfl) rfl (wr_lit rfl) (wr_lit rfl) (fun h => absurd h (by decide)) (fun _ => ?_)
  refine j_iloadn (k := 1) (D_Text_init 33 rfl) rfl rfl ?_
  refine j_bipush (v := 36) (D_Text_init 34 rfl) rfl ?_
  refine j_ic_gt (tgt := 101) (D_Text_init 35 rfl) rfl (wr_lit rfl) (wr_lit rfl) (fun h => absurd h (by decide)) (fun _ => ?_)
  refine j_ldcS (i := 0) rfl rfl (D_Text_init 36 rfl) ?_
  refine j_iloadn (k := 0) (D_Text_init 37 rfl) rfl rfl ?_
  refine j_cKi (As := [vi 172]) (c_String_charAt (i := 0) (x := 172) (by decide) (wr_lit rfl) (by decide) (by decide)) rfl lk_Text_40 mok_String_charAt (by decide) (by decide) rfl rfl (Nat.le_of_ble_eq_true rfl) (D_Text_init 38 rfl) (fun _ => ?_) (by decide)
  refine j_top0 (x' := 114) (by decide +kernel) ?_
  refine j_bipush (v := 32) (D_Text_init 39 rfl) rfl ?_
  refine j_ic_ne (tgt := 95) (D_Text_init 40 rfl) rfl (wr_lit rfl) (wr_lit rfl) (fun _ => ?_) (fun h => absurd h (by decide))
  refine j_iinc (k := 0) (x' := 173) (L' := [(2, vi 173), (1, vi 31), (0, rf X 15)]) (D_Text_init 49 rfl) rfl (by decide +kernel) (by decide) rfl ?_
  refine j_goto (tgt := 57) (D_Text_init 50 rfl) rfl ?_
  refine j_iloadn (k := 0) (D_Text_init 29 rfl) rfl rfl ?_
  refine j_ldcS (i := 0) rfl rfl (D_Text_init 30 rfl) ?_
  refine j_cKi (As := []) (c_String_length (i := 0) (by decide)) rfl lk_Text_34 mok_String_length (by decide) (by decide) rfl rfl (Nat.le_of_ble_eq_true rfl) (D_Text_init 31 rfl) (fun _ => ?_) (by decide)
  refine j_top0 (x' := 199) (by decide +kernel) ?_
  refine j_ic_ge (tgt := 101) (D_Text_init 32 rfl) rfl (wr_lit rfl) (wr_lit rfl) (fun h => absurd h (by decide)) (fun _ => ?_)
  refine j_iloadn (k := 1) (D_Text_init 33 rfl) rfl rfl ?_
  refine j_bipush (v := 36) (D_Text_init 34 rfl) rfl ?_
  refine j_ic_gt (tgt := 101) (D_Text_init 35 rfl) rfl (wr_lit rfl) (wr_lit rfl) (fun h => absurd h (by decide)) (fun _ => ?_)
  refine j_ldcS (i := 0) rfl rfl (D_Text_init 36 rfl) ?_
  refine j_iloadn (k := 0) (D_Text_init 37 rfl) rfl rfl ?_
  refine j_cKi (As := [vi 173]) (c_String_charAt (i := 0) (x := 173) (by decide) (wr_lit rfl) (by decide) (by decide)) rfl lk_Text_40 mok_String_charAt (by decide) (by decide) rfl rfl (Nat.le_of_ble_eq_true rfl) (D_Text_init 38 rfl) (fun _ => ?_) (by decide)
  refine j_top0 (x' := 101) (by decide +kernel) ?_
  refine j_bipush (v := 32) (D_Text_init 39 rfl) rfl ?_
  refine j_ic_ne (tgt := 95) (D_Text_init 40 rfl) rfl (wr_lit rfl) (wr_lit rfl) (fun _ => ?_) (fun h => absurd h (by decide))
  refine j_iinc (k := 0) (x' := 174) (L' := [(2, vi 174), (1, vi 31), (0, rf X 15)]) (D_Text_init 49 rfl) rfl (by decide +kernel) (by decide) rfl ?_
  refine j_goto (tgt := 57) (D_Text_init 50 rfl) rfl ?_
  refine j_iloadn (k := 0) (D_Text_init 29 rfl) rfl rfl ?_
  refine j_ldcS (i := 0) rfl rfl (D_Text_init 30 rfl) ?_
  refine j_cKi (As := []) (c_String_length (i := 0) (by decide)) rfl lk_Text_34 mok_String_length (by decide) (by decide) rfl rfl (Nat.le_of_ble_eq_true rfl) (D_Text_init 31 rfl) (fun _ => ?_) (by decide)
  refine j_top0 (x' := 199) (by decide +kernel) ?_
  refine j_ic_ge (tgt := 101) (D_Text_init 32 rfl) rfl (wr_lit rfl) (wr_lit rfl) (fun h => absurd h (by decide)) (fun _ => ?_)
  refine j_iloadn (k := 1) (D_Text_init 33 rfl) rfl rfl ?_
  refine j_bipush (v := 36) (D_Text_init 34 rfl) rfl ?_
  refine j_ic_gt (tgt := 101) (D_Text_init 35 rfl) rfl (wr_lit rfl) (wr_lit rfl) (fun h => absurd h (by decide)) (fun _ => ?_)
  refine j_ldcS (i := 0) rfl rfl (D_Text_init 36 rfl) ?_
  refine j_iloadn (k := 0) (D_Text_init 37 rfl) rfl rfl ?_
  refine j_cKi (As := [vi 174]) (c_String_charAt (i := 0) (x := 174) (by decide) (wr_lit rfl) (by decide) (by decide)) rfl lk_Text_40 mok_String_charAt (by decide) (by decide) rfl rfl (Nat.le_of_ble_eq_true rfl) (D_Text_init 38 rfl) (fun _ => ?_) (by decide)
  refine j_top0 (x' := 32) (by decide +kernel) ?_
  refine j_bipush (v := 32) (D_Text_init 39 rfl) rfl ?_
  refine j_ic_ne (tgt := 95) (D_Text_init 40 rfl) rfl (wr_lit rfl) (wr_lit rfl) (fun h => absurd rfl h) (fun _ => ?_)
  refine j_aloadn (k := 2) (D_Text_init 41 rfl) rfl rfl ?_
  refine j_getR (t := 17) rfl fa_Text_15 kd_15 (by decide) (by decide) rfl (fun _ => by decide +kernel) (by decide) (D_Text_init 42 rfl) ?_
  refine j_iloadn (k := 1) (D_Text_init 43 rfl) rfl rfl ?_
  refine j_iloadn (k := 0) (D_Text_init 44 rfl) rfl rfl ?_
  refine j_iconst (v := 1) (D_Text_init 45 rfl) rfl ?_
  refine j_iadd (D_Text_init 46 rfl) ?_
  refine j_top0 (x' := 175) (by decide +kernel) ?_
  refine j_iast (NI := 37) (D_Text_init 47 rfl) kd_17 (by decide) (wr_lit rfl) rfl (by decide) (by decide) ?_
  refine j_iinc (k := 1) (x' := 32) (L' := [(1, vi 32), (2, vi 174), (0, rf X 15)]) (D_Text_init 48 rfl) rfl (by decide +kernel) (by decide) rfl ?_
  refine j_iinc (k := 1) (x' := 175) (L' := [(2, vi 175), (1, vi 32), (0, rf X 15)]) (D_Text_init 49 rfl) rfl (by decide +kernel) (by decide) rfl ?_
  refine j_goto (tgt := 57) (D_Text_init 50 rfl) rfl ?_
  refine j_iloadn (k := 0) (D_Text_init 29 rfl) rfl rfl ?_
  refine j_ldcS (i := 0) rfl rfl (D_Text_init 30 rfl) ?_
  refine j_cKi (As := []) (c_String_length (i := 0) (by decide)) rfl lk_Text_34 mok_String_length (by decide) (by decide) rfl rfl (Nat.le_of_ble_eq_true rfl) (D_Text_init 31 rfl) (fun _ => ?_) (by decide)
  refine j_top0 (x' := 199) (by decide +kernel) ?_
  refine j_ic_ge (tgt := 101) (D_Text_init 32 rfl) rfl (wr_lit rfl) (wr_lit rfl) (fun h => absurd h (by decide)) (fun _ => ?_)
  refine j_iloadn (k := 1) (D_Text_init 33 rfl) rfl rfl ?_
  refine j_bipush (v := 36) (D_Text_init 34 rfl) rfl ?_
  refine j_ic_gt (tgt := 101) (D_Text_init 35 rfl) rfl (wr_lit rfl) (wr_lit rfl) (fun h => absurd h (by decide)) (fun _ => ?_)
  refine j_ldcS (i := 0) rfl rfl (D_Text_init 36 rfl) ?_
  refine j_iloadn (k := 0) (D_Text_init 37 rfl) rfl rfl ?_
  refine j_cKi (As := [vi 175]) (c_String_charAt (i := 0) (x := 175) (by decide) (wr_lit rfl) (by decide) (by decide)) rfl lk_Text_40 mok_String_charAt (by decide) (by decide) rfl rfl (Nat.le_of_ble_eq_true rfl) (D_Text_init 38 rfl) (fun _ => ?_) (by decide)
  refine j_top0 (x' := 97) (by decide +kernel) ?_
  refine j_bipush (v := 32) (D_Text_init 39 rfl) rfl ?_
  refine j_ic_ne (tgt := 95) (D_Text_init 40 rfl) rfl (wr_lit rfl) (wr_lit rfl) (fun _ => ?_) (fun h => absurd h (by decide))
  refine j_iinc (k := 0) (x' := 176) (L' := [(2, vi 176), (1, vi 32), (0, rf X 15)]) (D_Text_init 49 rfl) rfl (by decide +kernel) (by decide) rfl ?_
  refine j_goto (tgt := 57) (D_Text_init 50 rfl) rfl ?_
  refine j_iloadn (k := 0) (D_Text_init 29 rfl) rfl rfl ?_
  refine j_ldcS (i := 0) rfl rfl (D_Text_init 30 rfl) ?_
  refine j_cKi (As := []) (c_String_length (i := 0) (by decide)) rfl lk_Text_34 mok_String_length (by decide) (by decide) rfl rfl (Nat.le_of_ble_eq_true rfl) (D_Text_init 31 rfl) (fun _ => ?_) (by decide)
  refine j_top0 (x' := 199) (by decide +kernel) ?_
  refine j_ic_ge (tgt := 101) (D_Text_init 32 rfl) rfl (wr_lit rfl) (wr_lit rfl) (fun h => absurd h (by decide)) (fun _ => ?_)
  refine j_iloadn (k := 1) (D_Text_init 33 rfl) rfl rfl ?_
  refine j_bipush (v := 36) (D_Text_init 34 rfl) rfl ?_
  refine j_ic_gt (tgt := 101) (D_Text_init 35 rfl) rfl (wr_lit rfl) (wr_lit rfl) (fun h => absurd h (by decide)) (fun _ => ?_)
  refine j_ldcS (i := 0) rfl rfl (D_Text_init 36 rfl) ?_
  refine j_iloadn (k := 0) (D_Text_init 37 rfl) rfl rfl ?_
  refine j_cKi (As := [vi 176]) (c_String_charAt (i := 0) (x := 176) (by decide) (wr_lit rfl) (by decide) (by decide)) rfl lk_Text_40 mok_String_charAt (by decide) (by decide) rfl rfl (Nat.le_of_ble_eq_true rfl) (D_Text_init 38 rfl) (fun _ => ?_) (by decide)
  refine j_top0 (x' := 102) (by decide +kernel) ?_
  refine j_bipush (v := 32) (D_Text_init 39 rfl) rfl ?_
  refine j_ic_ne (tgt := 95) (D_Text_init 40 rfl) rfl (wr_lit rfl) (wr_lit rfl) (fun _ => ?_) (fun h => absurd h (by decide))
  refine j_iinc (k := 0) (x' := 177) (L' := [(2, vi 177), (1, vi 32), (0, rf X 15)]) (D_Text_init 49 rfl) rfl (by decide +kernel) (by decide) rfl ?_
  refine j_goto (tgt := 57) (D_Text_init 50 rfl) rfl ?_
  refine j_iloadn (k := 0) (D_Text_init 29 rfl) rfl rfl ?_
  refine j_ldcS (i := 0) rfl rfl (D_Text_init 30 rfl) ?_
  refine j_cKi (As := []) (c_String_length (i := 0) (by decide)) rfl lk_Text_34 mok_String_length (by decide) (by decide) rfl rfl (Nat.le_of_ble_eq_true rfl) (D_Text_init 31 rfl) (fun _ => ?_) (by decide)
  refine j_top0 (x' := 199) (by decide +kernel) ?_
  refine j_ic_ge (tgt := 101) (D_Text_init 32 rfl) rfl (wr_lit rfl) (wr_lit rfl) (fun h => absurd h (by decide)) (fun _ => ?_)
  refine j_iloadn (k := 1) (D_Text_init 33 rfl) rfl rfl ?_
  refine j_bipush (v := 36) (D_Text_init 34 rfl) rfl ?_
  refine j_ic_gt (tgt := 101) (D_Text_init 35 rfl) rfl (wr_lit rfl) (wr_lit rfl) (fun h => absurd h (by decide)) (fun _ => ?_)
  refine j_ldcS (i := 0) rfl rfl (D_Text_init 36 rfl) ?_
  refine j_iloadn (k := 0) (D_Text_init 37 rfl) rfl rfl ?_
  refine j_cKi (As := [vi 177]) (c_String_charAt (i := 0) (x := 177) (by decide) (wr_lit rfl) (by decide) (by decide)) rfl lk_Text_40 mok_String_charAt (by decide) (by decide) rfl rfl (Nat.le_of_ble_eq_true rfl) (D_Text_init 38 rfl) (fun _ => ?_) (by decide)
  refine j_top0 (x' := 116) (by decide +kernel) ?_
  refine j_bipush (v := 32) (D_Text_init 39 rfl) rfl ?_
  refine j_ic_ne (tgt := 95) (D_Text_init 40 rfl) rfl (wr_lit rfl) (wr_lit rfl) (fun _ => ?_) (fun h => absurd h (by decide))
  refine j_iinc (k := 0) (x' := 178) (L' := [(2, vi 178), (1, vi 32), (0, rf X 15)]) (D_Text_init 49 rfl) rfl (by decide +kernel) (by decide) rfl ?_
  refine j_goto (tgt := 57) (D_Text_init 50 rfl) rfl ?_
  refine j_iloadn (k := 0) (D_Text_init 29 rfl) rfl rfl ?_
  refine j_ldcS (i := 0) rfl rfl (D_Text_init 30 rfl) ?_
  refine j_cKi (As := []) (c_String_length (i := 0) (by decide)) rfl lk_Text_34 mok_String_length (by decide) (by decide) rfl rfl (Nat.le_of_ble_eq_true rfl) (D_Text_init 31 rfl) (fun _ => ?_) (by decide)
  refine j_top0 (x' := 199) (by decide +kernel) ?_
  refine j_ic_ge (tgt := 101) (D_Text_init 32 rfl) rfl (wr_lit rfl) (wr_lit rfl) (fun h => absurd h (by decide)) (fun _ => ?_)
  refine j_iloadn (k := 1) (D_Text_init 33 rfl) rfl rfl ?_
  refine j_bipush (v := 36) (D_Text_init 34 rfl) rfl ?_
  refine j_ic_gt (tgt := 101) (D_Text_init 35 rfl) rfl (wr_lit rfl) (wr_lit rfl) (fun h => absurd h (by decide)) (fun _ => ?_)
  refine j_ldcS (i := 0) rfl rfl (D_Text_init 36 rfl) ?_
  refine j_iloadn (k := 0) (D_Text_init 37 rfl) rfl rfl ?_
  refine j_cKi (As := [vi 178]) (c_String_charAt (i := 0) (x := 178) (by decide) (wr_lit rfl) (by decide) (by decide)) rfl lk_Text_40 mok_String_charAt (by decide) (by decide) rfl rfl (Nat.le_of_ble_eq_true rfl) (D_Text_init 38 rfl) (fun _ => ?_) (by decide)
  refine j_top0 (x' := 101) (by decide +kernel) ?_
  refine j_bipush (v := 32) (D_Text_init 39 rfl) rfl ?_
  refine j_ic_ne (tgt := 95) (D_Text_init 40 rfl) rfl (wr_lit rfl) (wr_lit rfl) (fun _ => ?_) (fun h => absurd h (by decide))
  refine j_iinc (k := 0) (x' := 179) (L' := [(2, vi 179), (1, vi 32), (0, rf X 15)]) (D_Text_init 49 rfl) rfl (by decide +kernel) (by decide) rfl ?_
  refine j_goto (tgt := 57) (D_Text_init 50 rfl) rfl ?_
  refine j_iloadn (k := 0) (D_Text_init 29 rfl) rfl rfl ?_
  refine j_ldcS (i := 0) rfl rfl (D_Text_init 30 rfl) ?_
  refine j_cKi (As := []) (c_String_length (i := 0) (by decide)) rfl lk_Text_34 mok_String_length (by decide) (by decide) rfl rfl (Nat.le_of_ble_eq_true rfl) (D_Text_init 31 rfl) (fun _ => ?_) (by decide)
  refine j_top0 (x' := 199) (by decide +kernel) ?_
  refine j_ic_ge (tgt := 101) (D_Text_init 32 rfl) rfl (wr_lit rfl) (wr_lit rfl) (fun h => absurd h (by decide)) (fun _ => ?_)
  refine j_iloadn (k := 1) (D_Text_init 33 rfl) rfl rfl ?_
  refine j_bipush (v := 36) (D_Text_init 34 rfl) rfl ?_
  refine j_ic_gt (tgt := 101) (D_Text_init 35 rfl) rfl (wr_lit rfl) (wr_lit rfl) (fun h => absurd h (by decide)) (fun _ => ?_)
  refine j_ldcS (i := 0) rfl rfl (D_Text_init 36 rfl) ?_
  refine j_iloadn (k := 0) (D_Text_init 37 rfl) rfl rfl ?_
  refine j_cKi (As := [vi 179]) (c_String_charAt (i := 0) (x := 179) (by decide) (wr_lit rfl) (by decide) (by decide)) rfl lk_Text_40 mok_String_charAt (by decide) (by decide) rfl rfl (Nat.le_of_ble_eq_true rfl) (D_Text_init 38 rfl) (fun _ => ?_) (by decide)
  refine j_top0 (x' := 114) (by decide +kernel) ?_
  refine j_bipush (v := 32) (D_Text_init 39 rfl) rfl ?_
  refine j_ic_ne (tgt := 95) (D_Text_init 40 rfl) rfl (wr_lit rfl) (wr_lit rfl) (fun _ => ?_) (fun h => absurd h (by decide))
  refine j_iinc (k := 0) (x' := 180) (L' := [(2, vi 180), (1, vi 32), (0, rf X 15)]) (D_Text_init 49 rfl) rfl (by decide +kernel) (by decide) rfl ?_
  refine j_goto (tgt := 57) (D_Text_init 50 rfl) rfl ?_
  refine j_iloadn (k := 0) (D_Text_init 29 rfl) rfl rfl ?_
  refine j_ldcS (i := 0) rfl rfl (D_Text_init 30 rfl) ?_
  refine j_cKi (As := []) (c_String_length (i := 0) (by decide)) rfl lk_Text_34 mok_String_length (by decide) (by decide) rfl rfl (Nat.le_of_ble_eq_true rfl) (D_Text_init 31 rfl) (fun _ => ?_) (by decide)
  refine j_top0 (x' := 199) (by decide +kernel) ?_
  refine j_ic_ge (tgt := 101) (D_Text_init 32 rfl) rfl (wr_lit rfl) (wr_lit rfl) (fun h => absurd h (by decide)) (fun _ => ?_)
  refine j_iloadn (k := 1) (D_Text_init 33 rfl) rfl rfl ?_
  refine j_bipush (v := 36) (D_Text_init 34 rfl) rfl ?_
  refine j_ic_gt (tgt := 101) (D_Text_init 35 rfl) rfl (wr_lit rfl) (wr_lit rfl) (fun h => absurd h (by decide)) (fun _ => ?_)
  refine j_ldcS (i := 0) rfl rfl (D_Text_init 36 rfl) ?_
  refine j_iloadn (k := 0) (D_Text_init 37 rfl) rfl rfl ?_
  refine j_cKi (As := [vi 180]) (c_String_charAt (i := 0) (x := 180) (by decide) (wr_lit rfl) (by decide) (by decide)) rfl lk_Text_40 mok_String_charAt (by decide) (by decide) rfl rfl (Nat.le_of_ble_eq_true rfl) (D_Text_init 38 rfl) (fun _ => ?_) (by decide)
  refine j_top0 (x' := 32) (by decide +kernel) ?_
  refine j_bipush (v := 32) (D_Text_init 39 rfl) rfl ?_
  refine j_ic_ne (tgt := 95) (D_Text_init 40 rfl) rfl (wr_lit rfl) (wr_lit rfl) (fun h => absurd rfl h) (fun _ => ?_)
  refine j_aloadn (k := 2) (D_Text_init 41 rfl) rfl rfl ?_
  refine j_getR (t := 17) rfl fa_Text_15 kd_15 (by decide) (by decide) rfl (fun _ => by decide +kernel) (by decide) (D_Text_init 42 rfl) ?_
  refine j_iloadn (k := 1) (D_Text_init 43 rfl) rfl rfl ?_
  refine j_iloadn (k := 0) (D_Text_init 44 rfl) rfl rfl ?_
  refine j_iconst (v := 1) (D_Text_init 45 rfl) rfl ?_
  refine j_iadd (D_Text_init 46 rfl) ?_
  refine j_top0 (x' := 181) (by decide +kernel) ?_
  refine j_iast (NI := 37) (D_Text_init 47 rfl) kd_17 (by decide) (wr_lit rfl) rfl (by decide) (by decide) ?_
  refine j_iinc (k := 1) (x' := 33) (L' := [(1, vi 33), (2, vi 180), (0, rf X 15)]) (D_Text_init 48 rfl) rfl (by decide +kernel) (by decide) rfl ?_
  refine j_iinc (k := 1) (x' := 181) (L' := [(2, vi 181), (1, vi 33), (0, rf X 15)]) (D_Text_init 49 rfl) rfl (by decide +kernel) (by decide) rfl ?_
  refine j_goto (tgt := 57) (D_Text_init 50 rfl) rfl ?_
  refine j_iloadn (k := 0) (D_Text_init 29 rfl) rfl rfl ?_
  refine j_ldcS (i := 0) rfl rfl (D_Text_init 30 rfl) ?_
  refine j_cKi (As := []) (c_String_length (i := 0) (by decide)) rfl lk_Text_34 mok_String_length (by decide) (by decide) rfl rfl (Nat.le_of_ble_eq_true rfl) (D_Text_init 31 rfl) (fun _ => ?_) (by decide)
  refine j_top0 (x' := 199) (by decide +kernel) ?_
  refine j_ic_ge (tgt := 101) (D_Text_init 32 rfl) rfl (wr_lit rfl) (wr_lit rfl) (fun h => absurd h (by decide)) (fun _ => ?_)
  refine j_iloadn (k := 1) (D_Text_init 33 rfl) rfl rfl ?_
  refine j_bipush (v := 36) (D_Text_init 34 rfl) rfl ?_
  refine j_ic_gt (tgt := 101) (D_Text_init 35 rfl) rfl (wr_lit rfl) (wr_lit rfl) (fun h => absurd h (by decide)) (fun _ => ?_)
  refine j_ldcS (i := 0) rfl rfl (D_Text_init 36 rfl) ?_
  refine j_iloadn (k := 0) (D_Text_init 37 rfl) rfl rfl ?_
  refine j_cKi (As := [vi 181]) (c_String_charAt (i := 0) (x := 181) (by decide) (wr_lit rfl) (by decide) (by decide)) rfl lk_Text_40 mok_String_charAt (by decide) (by decide) rfl rfl (Nat.le_of_ble_eq_true rfl) (D_Text_init 38 rfl) (fun _ => ?_) (by decide)
  refine j_top0 (x' := 100) (by decide +kernel) ?_
  refine j_bipush (v := 32) (D_Text_init 39 rfl) rfl ?_
  refine j_ic_ne (tgt := 95) (D_Text_init 40 rfl) rfl (wr_lit rfl) (wr_lit rfl) (fun _ => ?_) (fun h => absurd h (by decide))
  refine j_iinc (k := 0) (x' := 182) (L' := [(2, vi 182), (1, vi 33), (0, rf X 15)]) (D_Text_init 49 rfl) rfl (by decide +kernel) (by decide) rfl ?_
  refine j_goto (tgt := 57) (D_Text_init 50 rfl) rfl ?_
  refine j_iloadn (k := 0) (D_Text_init 29 rfl) rfl rfl ?_
  refine j_ldcS (i := 0) rfl rfl (D_Text_init 30 rfl) ?_
  refine j_cKi (As := []) (c_String_length (i := 0) (by decide)) rfl lk_Text_34 mok_String_length (by decide) (by decide) rfl rfl (Nat.le_of_ble_eq_true rfl) (D_Text_init 31 rfl) (fun _ => ?_) (by decide)
  refine j_top0 (x' := 199) (by decide +kernel) ?_
  refine j_ic_ge (tgt := 101) (D_Text_init 32 rfl) rfl (wr_lit rfl) (wr_lit rfl) (fun h => absurd h (by decide)) (fun _ => ?_)
  refine j_iloadn (k := 1) (D_Text_init 33 rfl) rfl rfl ?_
  refine j_bipush (v := 36) (D_Text_init 34 rfl) rfl ?_
  refine j_ic_gt (tgt := 101) (D_Text_init 35 rfl) rfl (wr_lit rfl) (wr_lit rfl) (fun h => absurd h (by decide)) (fun _ => ?_)
  refine j_ldcS (i := 0) rfl rfl (D_Text_init 36 rfl) ?_
  refine j_iloadn (k := 0) (D_Text_init 37 rfl) rfl rfl ?_
  refine j_cKi (As := [vi 182]) (c_String_charAt (i := 0) (x := 182) (by decide) (wr_lit rfl) (by decide) (by decide)) rfl lk_Text_40 mok_String_charAt (by decide) (by decide) rfl rfl (Nat.le_of_ble_eq_true rfl) (D_Text_init 38 rfl) (fun _ => ?_) (by decide)
  refine j_top0 (x' := 97) (by decide +kernel) ?_
  refine j_bipush (v := 32) (D_Text_init 39 rfl) rfl ?_
  refine j_ic_ne (tgt := 95) (D_Text_init 40 rfl) rfl (wr_lit rfl) (wr_lit rfl) (fun _ => ?_) (fun h => absurd h (by decide))
  refine j_iinc (k := 0) (x' := 183) (L' := [(2, vi 183), (1, vi 33), (0, rf X 15)]) (D_Text_init 49 rfl) rfl (by decide +kernel) (by decide) rfl ?_
  refine j_goto (tgt := 57) (D_Text_init 50 rfl) rfl ?_
  refine j_iloadn (k := 0) (D_Text_init 29 rfl) rfl rfl ?_
  refine j_ldcS (i := 0) rfl rfl (D_Text_init 30 rfl) ?_
  refine j_cKi (As := []) (c_String_length (i := 0) (by decide)) rfl lk_Text_34 mok_String_length (by decide) (by decide) rfl rfl (Nat.le_of_ble_eq_true rfl) (D_Text_init 31 rfl) (fun _ => ?_) (by decide)
  refine j_top0 (x' := 199) (by decide +kernel) ?_
  refine j_ic_ge (tgt := 101) (D_Text_init 32 rfl) rfl (wr_lit rfl) (wr_lit rfl) (fun h => absurd h (by decide)) (fun _ => ?_)
  refine j_iloadn (k := 1) (D_Text_init 33 rfl) rfl rfl ?_
  refine j_bipush (v := 36) (D_Text_init 34 rfl) rfl ?_
  refine j_ic_gt (tgt := 101) (D_Text_init 35 rfl) rfl (wr_lit rfl) (wr_lit rfl) (fun h => absurd h (by decide)) (fun _ => ?_)
  refine j_ldcS (i := 0) rfl rfl (D_Text_init 36 rfl) ?_
  refine j_iloadn (k := 0) (D_Text_init 37 rfl) rfl rfl ?_
  refine j_cKi (As := [vi 183]) (c_String_charAt (i := 0) (x := 183) (by decide) (wr_lit rfl) (by decide) (by decide)) rfl lk_Text_40 mok_String_charAt (by decide) (by decide) rfl rfl (Nat.le_of_ble_eq_true rfl) (D_Text_init 38 rfl) (fun _ => ?_) (by decide)
  refine j_top0 (x' := 121) (by decide +kernel) ?_
  refine j_bipush (v := 32) (D_Text_init 39 rfl) rfl ?_
  refine j_ic_ne (tgt := 95) (D_Text_init 40 rfl) rfl (wr_lit rfl) (wr_lit rfl) (fun _ => ?_) (fun h => absurd h (by decide))
  refine j_iinc (k := 0) (x' := 184) (L' := [(2, vi 184), (1, vi 33), (0, rf X 15)]) (D_Text_init 49 rfl) rfl (by decide +kernel) (by decide) rfl ?_
  refine j_goto (tgt := 57) (D_Text_init 50 rfl) rfl ?_
  refine j_iloadn (k := 0) (D_Text_init 29 rfl) rfl rfl ?_
  refine j_ldcS (i := 0) rfl rfl (D_Text_init 30 rfl) ?_
  refine j_cKi (As := []) (c_String_length (i := 0) (by decide)) rfl lk_Text_34 mok_String_length (by decide) (by decide) rfl rfl (Nat.le_of_ble_eq_true rfl) (D_Text_init 31 rfl) (fun _ => ?_) (by decide)
  refine j_top0 (x' := 199) (by decide +kernel) ?_
  refine j_ic_ge (tgt := 101) (D_Text_init 32 rfl) rfl (wr_lit rfl) (wr_lit rfl) (fun h => absurd h (by decide)) (fun _ => ?_)
  refine j_iloadn (k := 1) (D_Text_init 33 rfl) rfl rfl ?_
  refine j_bipush (v := 36) (D_Text_init 34 rfl) rfl ?_
  refine j_ic_gt (tgt := 101) (D_Text_init 35 rfl) rfl (wr_lit rfl) (wr_lit rfl) (fun h => absurd h (by decide)) (fun _ => ?_)
  refine j_ldcS (i := 0) rfl rfl (D_Text_init 36 rfl) ?_
  refine j_iloadn (k := 0) (D_Text_init 37 rfl) rfl rfl ?_
  refine j_cKi (As := [vi 184]) (c_String_charAt (i := 0) (x := 184) (by decide) (wr_lit rfl) (by decide) (by decide)) rfl lk_Text_40 mok_String_charAt (by decide) (by decide) rfl rfl (Nat.le_of_ble_eq_true rfl) (D_Text_init 38 rfl) (fun _ => ?_) (by decide)
  refine j_top0 (x' := 115) (by decide +kernel) ?_
  refine j_bipush (v := 32) (D_Text_init 39 rfl) rfl ?_
  refine j_ic_ne (tgt := 95) (D_Text_init 40 rfl) rfl (wr_lit rfl) (wr_lit rfl) (fun _ => ?_) (fun h => absurd h (by decide))
  refine j_iinc (k := 0) (x' := 185) (L' := [(2, vi 185), (1, vi 33), (0, rf X 15)]) (D_Text_init 49 rfl) rfl (by decide +kernel) (by decide) rfl ?_
  refine j_goto (tgt := 57) (D_Text_init 50 rfl) rfl ?_
  refine j_iloadn (k := 0) (D_Text_init 29 rfl) rfl rfl ?_
  refine j_ldcS (i := 0) rfl rfl (D_Text_init 30 rfl) ?_
  refine j_cKi (As := []) (c_String_length (i := 0) (by decide)) rfl lk_Text_34 mok_String_length (by decide) (by decide) rfl rfl (Nat.le_of_ble_eq_true rfl) (D_Text_init 31 rfl) (fun _ => ?_) (by decide)
  refine j_top0 (x' := 199) (by decide +kernel) ?_
  refine j_ic_ge (tgt := 101) (D_Text_init 32 rfl) rfl (wr_lit rfl) (wr_lit rfl) (fun h => absurd h (by decide)) (fun _ => ?_)
  refine j_iloadn (k := 1) (D_Text_init 33 rfl) rfl rfl ?_
  refine j_bipush (v := 36) (D_Text_init 34 rfl) rfl ?_
  refine j_ic_gt (tgt := 101) (D_Text_init 35 rfl) rfl (wr_lit rfl) (wr_lit rfl) (fun h => absurd h (by decide)) (fun _ => ?_)
  refine j_ldcS (i := 0) rfl rfl (D_Text_init 36 rfl) ?_
  refine j_iloadn (k := 0) (D_Text_init 37 rfl) rfl rfl ?_
  refine j_cKi (As := [vi 185]) (c_String_charAt (i := 0) (x := 185) (by decide) (wr_lit rfl) (by decide) (by decide)) rfl lk_Text_40 mok_String_charAt (by decide) (by decide) rfl rfl (Nat.le_of_ble_eq_true rfl) (D_Text_init 38 rfl) (fun _ => ?_) (by decide)
  refine j_top0 (x' := 32) (by decide +kernel) ?_
  refine j_bipush (v := 32) (D_Text_init 39 rfl) rfl ?_
  refine j_ic_ne (tgt := 95) (D_Text_init 40 rfl) rfl (wr_lit rfl) (wr_lit rfl) (fun h => absurd rfl h) (fun _ => ?_)
  refine j_aloadn (k := 2) (D_Text_init 41 rfl) rfl rfl ?_
  refine j_getR (t := 17) rfl fa_Text_15 kd_15 (by decide) (by decide) rfl (fun _ => by decide +kernel) (by decide) (D_Text_init 42 rfl) ?_
  refine j_iloadn (k := 1) (D_Text_init 43 rfl) rfl rfl ?_
  refine j_iloadn (k := 0) (D_Text_init 44 rfl) rfl rfl ?_
  refine j_iconst (v := 1) (D_Text_init 45 rfl) rfl ?_
  refine j_iadd (D_Text_init 46 rfl) ?_
  refine j_top0 (x' := 186) (by decide +kernel) ?_
  refine j_iast (NI := 37) (D_Text_init 47 rfl) kd_17 (by decide) (wr_lit rfl) rfl (by decide) (by decide) ?_
  refine j_iinc (k := 1) (x' := 34) (L' := [(1, vi 34), (2, vi 185), (0, rf X 15)]) (D_Text_init 48 rfl) rfl (by decide +kernel) (by decide) rfl ?_
  refine j_iinc (k := 1) (x' := 186) (L' := [(2, vi 186), (1, vi 34), (0, rf X 15)]) (D_Text_init 49 rfl) rfl (by decide +kernel) (by decide) rfl ?_
  refine j_goto (tgt := 57) (D_Text_init 50 rfl) rfl ?_
  refine j_iloadn (k := 0) (D_Text_init 29 rfl) rfl rfl ?_
  refine j_ldcS (i := 0) rfl rfl (D_Text_init 30 rfl) ?_
  refine j_cKi (As := []) (c_String_length (i := 0) (by decide)) rfl lk_Text_34 mok_String_length (by decide) (by decide) rfl rfl (Nat.le_of_ble_eq_true rfl) (D_Text_init 31 rfl) (fun _ => ?_) (by decide)
  refine j_top0 (x' := 199) (by decide +kernel) ?_
  refine j_ic_ge (tgt := 101) (D_Text_init 32 rfl) rfl (wr_lit rfl) (wr_lit rfl) (fun h => absurd h (by decide)) (fun _ => ?_)
  refine j_iloadn (k := 1) (D_Text_init 33 rfl) rfl rfl ?_
  refine j_bipush (v := 36) (D_Text_init 34 rfl) rfl ?_
  refine j_ic_gt (tgt := 101) (D_Text_init 35 rfl) rfl (wr_lit rfl) (wr_lit rfl) (fun h => absurd h (by decide)) (fun _ => ?_)
  refine j_ldcS (i := 0) rfl rfl (D_Text_init 36 rfl) ?_
  refine j_iloadn (k := 0) (D_Text_init 37 rfl) rfl rfl ?_
  refine j_cKi (As := [vi 186]) (c_String_charAt (i := 0) (x := 186) (by decide) (wr_lit rfl) (by decide) (by decide)) rfl lk_Text_40 mok_String_charAt (by decide) (by decide) rfl rfl (Nat.le_of_ble_eq_true rfl) (D_Text_init 38 rfl) (fun _ => ?_) (by decide)
  refine j_top0 (x' := 121) (by decide +kernel) ?_
  refine j_bipush (v := 32) (D_Text_init 39 rfl) rfl ?_
  refine j_ic_ne (tgt := 95) (D_Text_init 40 rfl) rfl (wr_lit rfl) (wr_lit rfl) (fun _ => ?_) (fun h => absurd h (by decide))
  refine j_iinc (k := 0) (x' := 187) (L' := [(2, vi 187), (1, vi 34), (0, rf X 15)]) (D_Text_init 49 rfl) rfl (by decide +kernel) (by decide) rfl ?_
  refine j_goto (tgt := 57) (D_Text_init 50 rfl) rfl ?_
  refine j_iloadn (k := 0) (D_Text_init 29 rfl) rfl rfl ?_
  refine j_ldcS (i := 0) rfl rfl (D_Text_init 30 rfl) ?_
  refine j_cKi (As := []) (c_String_length (i := 0) (by decide)) rfl lk_Text_34 mok_String_length (by decide) (by decide) rfl rfl (Nat.le_of_ble_eq_true rfl) (D_Text_init 31 rfl) (fun _ => ?_) (by decide)
  refine j_top0 (x' := 199) (by decide +kernel) ?_
  refine j_ic_ge (tgt := 101) (D_Text_init 32 rfl) rfl (wr_lit rfl) (wr_lit rfl) (fun h => absurd h (by decide)) (fun _ => ?_)
  refine j_iloadn (k := 1) (D_Text_init 33 rfl) rfl rfl ?_
  refine j_bipush (v := 36) (D_Text_init 34 rfl) rfl ?_
  refine j_ic_gt (tgt := 101) (D_Text_init 35 rfl) rfl (wr_lit rfl) (wr_lit rfl) (fun h => absurd h (by decide)) (fun _ => ?_)
  refine j_ldcS (i := 0) rfl rfl (D_Text_init 36 rfl) ?_
  refine j_iloadn (k := 0) (D_Text_init 37 rfl) rfl rfl ?_
  refine j_cKi (As := [vi 187]) (c_String_charAt (i := 0) (x := 187) (by decide) (wr_lit rfl) (by decide) (by decide)) rfl lk_Text_40 mok_String_charAt (by decide) (by decide) rfl rfl (Nat.le_of_ble_eq_true rfl) (D_Text_init 38 rfl) (fun _ => ?_) (by decide)
  refine j_top0 (x' := 101) (by decide +kernel) ?_
  refine j_bipush (v := 32) (D_Text_init 39 rfl) rfl ?_
  refine j_ic_ne (tgt := 95) (D_Text_init 40 rfl) rfl (wr_lit rfl) (wr_lit rfl) (fun _ => ?_) (fun h => absurd h (by decide))
  refine j_iinc (k := 0) (x' := 188) (L' := [(2, vi 188), (1, vi 34), (0, rf X 15)]) (D_Text_init 49 rfl) rfl (by decide +kernel) (by decide) rfl ?_
  refine j_goto (tgt := 57) (D_Text_init 50 rfl) rfl ?_
  refine j_iloadn (k := 0) (D_Text_init 29 rfl) rfl rfl ?_
  refine j_ldcS (i := 0) rfl rfl (D_Text_init 30 rfl) ?_
  refine j_cKi (As := []) (c_String_length (i := 0) (by decide)) rfl lk_Text_34 mok_String_length (by decide) (by decide) rfl rfl (Nat.le_of_ble_eq_true rfl) (D_Text_init 31 rfl) (fun _ => ?_) (by decide)
  refine j_top0 (x' := 199) (by decide +kernel) ?_
  refine j_ic_ge (tgt := 101) (D_Text_init 32 rfl) rfl (wr_lit rfl) (wr_lit rfl) (fun h => absurd h (by decide)) (fun _ => ?_)
  refine j_iloadn (k := 1) (D_Text_init 33 rfl) rfl rfl ?_
  refine j_bipush (v := 36) (D_Text_init 34 rfl) rfl ?_
  refine j_ic_gt (tgt := 101) (D_Text_init 35 rfl) rfl (wr_lit rfl) (wr_lit rfl) (fun h => absurd h (by decide)) (fun _ => ?_)
  refine j_ldcS (i := 0) rfl rfl (D_Text_init 36 rfl) ?_
  refine j_iloadn (k := 0) (D_Text_init 37 rfl) rfl rfl ?_
  refine j_cKi (As := [vi 188]) (c_String_charAt (i := 0) (x := 188) (by decide) (wr_lit rfl) (by decide) (by decide)) rfl lk_Text_40 mok_String_charAt (by decide) (by decide) rfl rfl (Nat.le_of_ble_eq_true rfl) (D_Text_init 38 rfl) (fun _ => ?_) (by decide)
  refine j_top0 (x' := 97) (by decide +kernel) ?_
  refine j_bipush (v := 32) (D_Text_init 39 rfl) rfl ?_
  refine j_ic_ne (tgt := 95) (D_Text_init 40 rfl) rfl (wr_lit rfl) (wr_lit rfl) (fun _ => ?_) (fun h => absurd h (by decide))
  refine j_iinc (k := 0) (x' := 189) (L' := [(2, vi 189), (1, vi 34), (0, rf X 15)]) (D_Text_init 49 rfl) rfl (by decide +kernel) (by decide) rfl ?_
  refine j_goto (tgt := 57) (D_Text_init 50 rfl) rfl ?_
  refine j_iloadn (k := 0) (D_Text_init 29 rfl) rfl rfl ?_
  refine j_ldcS (i := 0) rfl rfl (D_Text_init 30 rfl) ?_
  refine j_cKi (As := []) (c_String_length (i := 0) (by decide)) rfl lk_Text_34 mok_String_length (by decide) (by decide) rfl rfl (Nat.le_of_ble_eq_true rfl) (D_Text_init 31 rfl) (fun _ => ?_) (by decide)
  refine j_top0 (x' := 199) (by decide +kernel) ?_
  refine j_ic_ge (tgt := 101) (D_Text_init 32 rfl) rfl (wr_lit rfl) (wr_lit rfl) (fun h => absurd h (by decide)) (fun _ => ?_)
  refine j_iloadn (k := 1) (D_Text_init 33 rfl) rfl rfl ?_
  refine j_bipush (v := 36) (D_Text_init 34 rfl) rfl ?_
  refine j_ic_gt (tgt := 101) (D_Text_init 35 rfl) rfl (wr_lit rfl) (wr_lit rfl) (fun h => absurd h (by decide)) (fun _ => ?_)
  refine j_ldcS (i := 0) rfl rfl (D_Text_init 36 rfl) ?_
  refine j_iloadn (k := 0) (D_Text_init 37 rfl) rfl rfl ?_
  refine j_cKi (As := [vi 189]) (c_String_charAt (i := 0) (x := 189) (by decide) (wr_lit rfl) (by decide) (by decide)) rfl lk_Text_40 mok_String_charAt (by decide) (by decide) rfl rfl (Nat.le_of_ble_eq_true rfl) (D_Text_init 38 rfl) (fun _ => ?_) (by decide)
  refine j_top0 (x' := 114) (by decide +kernel) ?_
  refine j_bipush (v := 32) (D_Text_init 39 rfl) rfl ?_
  refine j_ic_ne (tgt := 95) (D_Text_init 40 rfl) rfl (wr_lit rfl) (wr_lit rfl) (fun _ => ?_) (fun h => absurd h (by decide))
  refine j_iinc (k := 0) (x' := 190) (L' := [(2, vi 190), (1, vi 34), (0, rf X 15)]) (D_Text_init 49 rfl) rfl (by decide +kernel) (by decide) rfl ?_
  refine j_goto (tgt := 57) (D_Text_init 50 rfl) rfl ?_
  refine j_iloadn (k := 0) (D_Text_init 29 rfl) rfl rfl ?_
  refine j_ldcS (i := 0) rfl rfl (D_Text_init 30 rfl) ?_
  refine j_cKi (As := []) (c_String_length (i := 0) (by decide)) rfl lk_Text_34 mok_String_length (by decide) (by decide) rfl rfl (Nat.le_of_ble_eq_true rfl) (D_Text_init 31 rfl) (fun _ => ?_) (by decide)
  refine j_top0 (x' := 199) (by decide +kernel) ?_
  refine j_ic_ge (tgt := 101) (D_Text_init 32 rfl) rfl (wr_lit rfl) (wr_lit rfl) (fun h => absurd h (by decide)) (fun _ => ?_)
  refine j_iloadn (k := 1) (D_Text_init 33 rfl) rfl rfl ?_
  refine j_bipush (v := 36) (D_Text_init 34 rfl) rfl ?_
  refine j_ic_gt (tgt := 101) (D_Text_init 35 rfl) rfl (wr_lit rfl) (wr_lit rfl) (fun h => absurd h (by decide)) (fun _ => ?_)
  refine j_ldcS (i := 0) rfl rfl (D_Text_init 36 rfl) ?_
  refine j_iloadn (k := 0) (D_Text_init 37 rfl) rfl rfl ?_
  refine j_cKi (As := [vi 190]) (c_String_charAt (i := 0) (x := 190) (by decide) (wr_lit rfl) (by decide) (by decide)) rfl lk_Text_40 mok_String_charAt (by decide) (by decide) rfl rfl (Nat.le_of_ble_eq_true rfl) (D_Text_init 38 rfl) (fun _ => ?_) (by decide)
  refine j_top0 (x' := 115) (by decide +kernel) ?_
  refine j_bipush (v := 32) (D_Text_init 39 rfl) rfl ?_
  refine j_ic_ne (tgt := 95) (D_Text_init 40 rfl) rfl (wr_lit rfl) (wr_lit rfl) (fun _ => ?_) (fun h => absurd h (by decide))
  refine j_iinc (k := 0) (x' := 191) (L' := [(2, vi 191), (1, vi 34), (0, rf X 15)]) (D_Text_init 49 rfl) rfl (by decide +kernel) (by decide) rfl ?_
  refine j_goto (tgt := 57) (D_Text_init 50 rfl) rfl ?_
  refine j_iloadn (k := 0) (D_Text_init 29 rfl) rfl rfl ?_
  refine j_ldcS (i := 0) rfl rfl (D_Text_init 30 rfl) ?_
  refine j_cKi (As := []) (c_String_length (i := 0) (by decide)) rfl lk_Text_34 mok_String_length (by decide) (by decide) rfl rfl (Nat.le_of_ble_eq_true rfl) (D_Text_init 31 rfl) (fun _ => ?_) (by decide)
  refine j_top0 (x' := 199) (by decide +kernel) ?_
  refine j_ic_ge (tgt := 101) (D_Text_init 32 rfl) rfl (wr_lit rfl) (wr_lit rfl) (fun h => absurd h (by decide)) (fun _ => ?_)
  refine j_iloadn (k := 1) (D_Text_init 33 rfl) rfl rfl ?_
  refine j_bipush (v := 36) (D_Text_init 34 rfl) rfl ?_
  refine j_ic_gt (tgt := 101) (D_Text_init 35 rfl) rfl (wr_lit rfl) (wr_lit rfl) (fun h => absurd h (by decide)) (fun _ => ?_)
  refine j_ldcS (i := 0) rfl rfl (D_Text_init 36 rfl) ?_
  refine j_iloadn (k := 0) (D_Text_init 37 rfl) rfl rfl ?_
  refine j_cKi (As := [vi 191]) (c_String_charAt (i := 0) (x := 191) (by decide) (wr_lit rfl) (by decide) (by decide)) rfl lk_Text_40 mok_String_charAt (by decide) (by decide) rfl rfl (Nat.le_of_ble_eq_true rfl) (D_Text_init 38 rfl) (fun _ => ?_) (by decide)
  refine j_top0 (x' := 32) (by decide +kernel) ?_
  refine j_bipush (v := 32) (D_Text_init 39 rfl) rfl ?_
  refine j_ic_ne (tgt := 95) (D_Text_init 40 rfl) rfl (wr_lit rfl) (wr_lit rfl) (fun h => absurd rfl h) (fun _ => ?_)
  refine j_aloadn (k := 2) (D_Text_init 41 rfl) rfl rfl ?_
  refine j_getR (t := 17) rfl fa_Text_15 kd_15 (by decide) (by decide) rfl (fun _ => by decide +kernel) (by decide) (D_Text_init 42 rfl) ?_
  refine j_iloadn (k := 1) (D_Text_init 43 rfl) rfl rfl ?_
  refine j_iloadn (k := 0) (D_Text_init 44 rfl) rfl rfl ?_
  refine j_iconst (v := 1) (D_Text_init 45 rfl) rfl ?_
  refine j_iadd (D_Text_init 46 rfl) ?_
  refine j_top0 (x' := 192) (by decide +kernel) ?_
  refine j_iast (NI := 37) (D_Text_init 47 rfl) kd_17 (by decide) (wr_lit rfl) rfl (by decide) (by decide) ?_
  refine j_iinc (k := 1) (x' := 35) (L' := [(1, vi 35), (2, vi 191), (0, rf X 15)]) (D_Text_init 48 rfl) rfl (by decide +kernel) (by decide) rfl ?_
  refine j_iinc (k := 1) (x' := 192) (L' := [(2, vi 192), (1, vi 35), (0, rf X 15)]) (D_Text_init 49 rfl) rfl (by decide +kernel) (by decide) rfl ?_
  refine j_goto (tgt := 57) (D_Text_init 50 rfl) rfl ?_
  refine j_iloadn (k := 0) (D_Text_init 29 rfl) rfl rfl ?_
  refine j_ldcS (i := 0) rfl rfl (D_Text_init 30 rfl) ?_
  refine j_cKi (As := []) (c_String_length (i := 0) (by decide)) rfl lk_Text_34 mok_String_length (by decide) (by decide) rfl rfl (Nat.le_of_ble_eq_true rfl) (D_Text_init 31 rfl) (fun _ => ?_) (by decide)
  refine j_top0 (x' := 199) (by decide +kernel) ?_
  refine j_ic_ge (tgt := 101) (D_Text_init 32 rfl) rfl (wr_lit rfl) (wr_lit rfl) (fun h => absurd h (by decide)) (fun _ => ?_)
  refine j_iloadn (k := 1) (D_Text_init 33 rfl) rfl rfl ?_
  refine j_bipush (v := 36) (D_Text_init 34 rfl) rfl ?_
  refine j_ic_gt (tgt := 101) (D_Text_init 35 rfl) rfl (wr_lit rfl) (wr_lit rfl) (fun h => absurd h (by decide)) (fun _ => ?_)
  refine j_ldcS (i := 0) rfl rfl (D_Text_init 36 rfl) ?_
  refine j_iloadn (k := 0) (D_Text_init 37 rfl) rfl rfl ?_
  refine j_cKi (As := [vi 192]) (c_String_charAt (i := 0) (x := 192) (by decide) (wr_lit rfl) (by decide) (by decide)) rfl lk_Text_40 mok_String_charAt (by decide) (by decide) rfl rfl (Nat.le_of_ble_eq_true rfl) (D_Text_init 38 rfl) (fun _ => ?_) (by decide)
  refine j_top0 (x' := 97) (by decide +kernel) ?_
  refine j_bipush (v := 32) (D_Text_init 39 rfl) rfl ?_
  refine j_ic_ne (tgt := 95) (D_Text_init 40 rfl) rfl (wr_lit rfl) (wr_lit rfl) (fun _ => ?_) (fun h => absurd h (by decide))
  refine j_iinc (k := 0) (x' := 193) (L' := [(2, vi 193), (1, vi 35), (0, rf X 15)]) (D_Text_init 49 rfl) rfl (by decide +kernel) (by decide) rfl ?_
  refine j_goto (tgt := 57) (D_Text_init 50 rfl) rfl ?_
  refine j_iloadn (k := 0) (D_Text_init 29 rfl) rfl rfl ?_
  refine j_ldcS (i := 0) rfl rfl (D_Text_init 30 rfl) ?_
  refine j_cKi (As := []) (c_String_length (i := 0) (by decide)) rfl lk_Text_34 mok_String_length (by decide) (by decide) rfl rfl (Nat.le_of_ble_eq_true rfl) (D_Text_init 31 rfl) (fun _ => ?_) (by decide)
  refine j_top0 (x' := 199) (by decide +kernel) ?_
  refine j_ic_ge (tgt := 101) (D_Text_init 32 rfl) rfl (wr_lit rfl) (wr_lit rfl) (fun h => absurd h (by decide)) (fun _ => ?_)
  refine j_iloadn (k := 1) (D_Text_init 33 rfl) rfl rfl ?_
  refine j_bipush (v := 36) (D_Text_init 34 rfl) rfl ?_
  refine j_ic_gt (tgt := 101) (D_Text_init 35 rfl) rfl (wr_lit rfl) (wr_lit rfl) (fun h => absurd h (by decide)) (fun _ => ?_)
  refine j_ldcS (i := 0) rfl rfl (D_Text_init 36 rfl) ?_
  refine j_iloadn (k := 0) (D_Text_init 37 rfl) rfl rfl ?_
  refine j_cKi (As := [vi 193]) (c_String_charAt (i := 0) (x := 193) (by decide) (wr_lit rfl) (by decide) (by decide)) rfl lk_Text_40 mok_String_charAt (by decide) (by decide) rfl rfl (Nat.le_of_ble_eq_true rfl) (D_Text_init 38 rfl) (fun _ => ?_) (by decide)
  refine j_top0 (x' := 116) (by decide +kernel) ?_
  refine j_bipush (v := 32) (D_Text_init 39 rfl) rfl ?_
  refine j_ic_ne (tgt := 95) (D_Text_init 40 rfl) rfl (wr_lit rfl) (wr_lit rfl) (fun _ => ?_) (fun h => absurd h (by decide))
  refine j_iinc (k := 0) (x' := 194) (L' := [(2, vi 194), (1, vi 35), (0, rf X 15)]) (D_Text_init 49 rfl) rfl (by decide +kernel) (by decide) rfl ?_
  refine j_goto (tgt := 57) (D_Text_init 50 rfl) rfl ?_
  refine j_iloadn (k := 0) (D_Text_init 29 rfl) rfl rfl ?_
  refine j_ldcS (i := 0) rfl rfl (D_Text_init 30 rfl) ?_
  refine j_cKi (As := []) (c_String_length (i := 0) (by decide)) rfl lk_Text_34 mok_String_length (by decide) (by decide) rfl rfl (Nat.le_of_ble_eq_true rfl) (D_Text_init 31 rfl) (fun _ => ?_) (by decide)
  refine j_top0 (x' := 199) (by decide +kernel) ?_
  refine j_ic_ge (tgt := 101) (D_Text_init 32 rfl) rfl (wr_lit rfl) (wr_lit rfl) (fun h => absurd h (by decide)) (fun _ => ?_)
  refine j_iloadn (k := 1) (D_Text_init 33 rfl) rfl rfl ?_
  refine j_bipush (v := 36) (D_Text_init 34 rfl) rfl ?_
  refine j_ic_gt (tgt := 101) (D_Text_init 35 rfl) rfl (wr_lit rfl) (wr_lit rfl) (fun h => absurd h (by decide)) (fun _ => ?_)
  refine j_ldcS (i := 0) rfl rfl (D_Text_init 36 rfl) ?_
  refine j_iloadn (k := 0) (D_Text_init 37 rfl) rfl rfl ?_
  refine j_cKi (As := [vi 194]) (c_String_charAt (i := 0) (x := 194) (by decide) (wr_lit rfl) (by decide) (by decide)) rfl lk_Text_40 mok_String_charAt (by decide) (by decide) rfl rfl (Nat.le_of_ble_eq_true rfl) (D_Text_init 38 rfl) (fun _ => ?_) (by decide)
  refine j_top0 (x' := 32) (by decide +kernel) ?_
  refine j_bipush (v := 32) (D_Text_init 39 rfl) rfl ?_
  refine j_ic_ne (tgt := 95) (D_Text_init 40 rfl) rfl (wr_lit rfl) (wr_lit rfl) (fun h => absurd rfl h) (fun _ => ?_)
  refine j_aloadn (k := 2) (D_Text_init 41 rfl) rfl rfl ?_
  refine j_getR (t := 17) rfl fa_Text_15 kd_15 (by decide) (by decide) rfl (fun _ => by decide +kernel) (by decide) (D_Text_init 42 rfl) ?_
  refine j_iloadn (k := 1) (D_Text_init 43 rfl) rfl rfl ?_
  refine j_iloadn (k := 0) (D_Text_init 44 rfl) rfl rfl ?_
  refine j_iconst (v := 1) (D_Text_init 45 rfl) rfl ?_
  refine j_iadd (D_Text_init 46 rfl) ?_
  refine j_top0 (x' := 195) (by decide +kernel) ?_
  refine j_iast (NI := 37) (D_Text_init 47 rfl) kd_17 (by decide) (wr_lit rfl) rfl (by decide) (by decide) ?_
  refine j_iinc (k := 1) (x' := 36) (L' := [(1, vi 36), (2, vi 194), (0, rf X 15)]) (D_Text_init 48 rfl) rfl (by decide +kernel) (by decide) rfl ?_
  refine j_iinc (k := 1) (x' := 195) (L' := [(2, vi 195), (1, vi 36), (0, rf X 15)]) (D_Text_init 49 rfl) rfl (by decide +kernel) (by decide) rfl ?_
  refine j_goto (tgt := 57) (D_Text_init 50 rfl) rfl ?_
  refine j_iloadn (k := 0) (D_Text_init 29 rfl) rfl rfl ?_
  refine j_ldcS (i := 0) rfl rfl (D_Text_init 30 rfl) ?_
  refine j_cKi (As := []) (c_String_length (i := 0) (by decide)) rfl lk_Text_34 mok_String_length (by decide) (by decide) rfl rfl (Nat.le_of_ble_eq_true rfl) (D_Text_init 31 rfl) (fun _ => ?_) (by decide)
  refine j_top0 (x' := 199) (by decide +kernel) ?_
  refine j_ic_ge (tgt := 101) (D_Text_init 32 rfl) rfl (wr_lit rfl) (wr_lit rfl) (fun h => absurd h (by decide)) (fun _ => ?_)
  refine j_iloadn (k := 1) (D_Text_init 33 rfl) rfl rfl ?_
  refine j_bipush (v := 36) (D_Text_init 34 rfl) rfl ?_
  refine j_ic_gt (tgt := 101) (D_Text_init 35 rfl) rfl (wr_lit rfl) (wr_lit rfl) (fun h => absurd h (by decide)) (fun _ => ?_)
  refine j_ldcS (i := 0) rfl rfl (D_Text_init 36 rfl) ?_
  refine j_iloadn (k := 0) (D_Text_init 37 rfl) rfl rfl ?_
  refine j_cKi (As := [vi 195]) (c_String_charAt (i := 0) (x := 195) (by decide) (wr_lit rfl) (by decide) (by decide)) rfl lk_Text_40 mok_String_charAt (by decide) (by decide) rfl rfl (Nat.le_of_ble_eq_true rfl) (D_Text_init 38 rfl) (fun _ => ?_) (by decide)
  refine j_top0 (x' := 111) (by decide +kernel) ?_
  refine j_bipush (v := 32) (D_Text_init 39 rfl) rfl ?_
  refine j_ic_ne (tgt := 95) (D_Text_init 40 rfl) rfl (wr_lit rfl) (wr_lit rfl) (fun _ => ?_) (fun h => absurd h (by decide))
  refine j_iinc (k := 0) (x' := 196) (L' := [(2, vi 196), (1, vi 36), (0, rf X 15)]) (D_Text_init 49 rfl) rfl (by decide +kernel) (by decide) rfl ?_
  refine j_goto (tgt := 57) (D_Text_init 50 rfl) rfl ?_
  refine j_iloadn (k := 0) (D_Text_init 29 rfl) rfl rfl ?_
  refine j_ldcS (i := 0) rfl rfl (D_Text_init 30 rfl) ?_
  refine j_cKi (As := []) (c_String_length (i := 0) (by decide)) rfl lk_Text_34 mok_String_length (by decide) (by decide) rfl rfl (Nat.le_of_ble_eq_true rfl) (D_Text_init 31 rfl) (fun _ => ?_) (by decide)
  refine j_top0 (x' := 199) (by decide +kernel) ?_
  refine j_ic_ge (tgt := 101) (D_Text_init 32 rfl) rfl (wr_lit rfl) (wr_lit rfl) (fun h => absurd h (by decide)) (fun _ => ?_)
  refine j_iloadn (k := 1) (D_Text_init 33 rfl) rfl rfl ?_
  refine j_bipush (v := 36) (D_Text_init 34 rfl) rfl ?_
  refine j_ic_gt (tgt := 101) (D_Text_init 35 rfl) rfl (wr_lit rfl) (wr_lit rfl) (fun h => absurd h (by decide)) (fun _ => ?_)
  refine j_ldcS (i := 0) rfl rfl (D_Text_init 36 rfl) ?_
  refine j_iloadn (k := 0) (D_Text_init 37 rfl) rfl rfl ?_
  refine j_cKi (As := [vi 196]) (c_String_charAt (i := 0) (x := 196) (by decide) (wr_lit rfl) (by decide) (by decide)) rfl lk_Text_40 mok_String_charAt (by decide) (by decide) rfl rfl (Nat.le_of_ble_eq_true rfl) (D_Text_init 38 rfl) (fun _ => ?_) (by decide)
  refine j_top0 (x' := 102) (by decide +kernel) ?_
  refine j_bipush (v := 32) (D_Text_init 39 rfl) rfl ?_
  refine j_ic_ne (tgt := 95) (D_Text_init 40 rfl) rfl (wr_lit rfl) (wr_lit rfl) (fun _ => ?_) (fun h => absurd h (by decide))
  refine j_iinc (k := 0) (x' := 197) (L' := [(2, vi 197), (1, vi 36), (0, rf X 15)]) (D_Text_init 49 rfl) rfl (by decide +kernel) (by decide) rfl ?_
  refine j_goto (tgt := 57) (D_Text_init 50 rfl) rfl ?_
  refine j_iloadn (k := 0) (D_Text_init 29 rfl) rfl rfl ?_
  refine j_ldcS (i := 0) rfl rfl (D_Text_init 30 rfl) ?_
  refine j_cKi (As := []) (c_String_length (i := 0) (by decide)) rfl lk_Text_34 mok_String_length (by decide) (by decide) rfl rfl (Nat.le_of_ble_eq_true rfl) (D_Text_init 31 rfl) (fun _ => ?_) (by decide)
  refine j_top0 (x' := 199) (by decide +kernel) ?_
  refine j_ic_ge (tgt := 101) (D_Text_init 32 rfl) rfl (wr_lit rfl) (wr_lit rfl) (fun h => absurd h (by decide)) (fun _ => ?_)
  refine j_iloadn (k := 1) (D_Text_init 33 rfl) rfl rfl ?_
  refine j_bipush (v := 36) (D_Text_init 34 rfl) rfl ?_
  refine j_ic_gt (tgt := 101) (D_Text_init 35 rfl) rfl (wr_lit rfl) (wr_lit rfl) (fun h => absurd h (by decide)) (fun _ => ?_)
  refine j_ldcS (i := 0) rfl rfl (D_Text_init 36 rfl) ?_
  refine j_iloadn (k := 0) (D_Text_init 37 rfl) rfl rfl ?_
  refine j_cKi (As := [vi 197]) (c_String_charAt (i := 0) (x := 197) (by decide) (wr_lit rfl) (by decide) (by decide)) rfl lk_Text_40 mok_String_charAt (by decide) (by decide) rfl rfl (Nat.le_of_ble_eq_true rfl) (D_Text_init 38 rfl) (fun _ => ?_) (by decide)
  refine j_top0 (x' := 102) (by decide +kernel) ?_
  refine j_bipush (v := 32) (D_Text_init 39 rfl) rfl ?_
  refine j_ic_ne (tgt := 95) (D_Text_init 40 rfl) rfl (wr_lit rfl) (wr_lit rfl) (fun _ => ?_) (fun h => absurd h (by decide))
  refine j_iinc (k := 0) (x' := 198) (L' := [(2, vi 198), (1, vi 36), (0, rf X 15)]) (D_Text_init 49 rfl) rfl (by decide +kernel) (by decide) rfl ?_
  refine j_goto (tgt := 57) (D_Text_init 50 rfl) rfl ?_
  refine j_iloadn (k := 0) (D_Text_init 29 rfl) rfl rfl ?_
  refine j_ldcS (i := 0) rfl rfl (D_Text_init 30 rfl) ?_
  refine j_cKi (As := []) (c_String_length (i := 0) (by decide)) rfl lk_Text_34 mok_String_length (by decide) (by decide) rfl rfl (Nat.le_of_ble_eq_true rfl) (D_Text_init 31 rfl) (fun _ => ?_) (by decide)
  refine j_top0 (x' := 199) (by decide +kernel) ?_
  refine j_ic_ge (tgt := 101) (D_Text_init 32 rfl) rfl (wr_lit rfl) (wr_lit rfl) (fun h => absurd h (by decide)) (fun _ => ?_)
  refine j_iloadn (k := 1) (D_Text_init 33 rfl) rfl rfl ?_
  refine j_bipush (v := 36) (D_Text_init 34 rfl) rfl ?_
  refine j_ic_gt (tgt := 101) (D_Text_init 35 rfl) rfl (wr_lit rfl) (wr_lit rfl) (fun h => absurd h (by decide)) (fun _ => ?_)
  refine j_ldcS (i := 0) rfl rfl (D_Text_init 36 rfl) ?_
  refine j_iloadn (k := 0) (D_Text_init 37 rfl) rfl rfl ?_
  refine j_cKi (As := [vi 198]) (c_String_charAt (i := 0) (x := 198) (by decide) (wr_lit rfl) (by decide) (by decide)) rfl lk_Text_40 mok_String_charAt (by decide) (by decide) rfl rfl (Nat.le_of_ble_eq_true rfl) (D_Text_init 38 rfl) (fun _ => ?_) (by decide)
  refine j_top0 (x' := 32) (by decide +kernel) ?_
  refine j_bipush (v := 32) (D_Text_init 39 rfl) rfl ?_
  refine j_ic_ne (tgt := 95) (D_Text_init 40 rfl) rfl (wr_lit rfl) (wr_lit rfl) (fun h => absurd rfl h) (fun _ => ?_)
  refine j_aloadn (k := 2) (D_Text_init 41 rfl) rfl rfl ?_
  refine j_getR (t := 17) rfl fa_Text_15 kd_15 (by decide) (by decide) rfl (fun _ => by decide +kernel) (by decide) (D_Text_init 42 rfl) ?_
  refine j_iloadn (k := 1) (D_Text_init 43 rfl) rfl rfl ?_
  refine j_iloadn (k := 0) (D_Text_init 44 rfl) rfl rfl ?_
  refine j_iconst (v := 1) (D_Text_init 45 rfl) rfl ?_
  refine j_iadd (D_Text_init 46 rfl) ?_
  refine j_top0 (x' := 199) (by decide +kernel) ?_
  refine j_iast (NI := 37) (D_Text_init 47 rfl) kd_17 (by decide) (wr_lit rfl) rfl (by decide) (by decide) ?_
  refine j_iinc (k := 1) (x' := 37) (L' := [(1, vi 37), (2, vi 198), (0, rf X 15)]) (D_Text_init 48 rfl) rfl (by decide +kernel) (by decide) rfl ?_
  refine j_iinc (k := 1) (x' := 199) (L' := [(2, vi 199), (1, vi 37), (0, rf X 15)]) (D_Text_init 49 rfl) rfl (by decide +kernel) (by decide) rfl ?_
  refine j_goto (tgt := 57) (D_Text_init 50 rfl) rfl ?_
  refine j_iloadn (k := 0) (D_Text_init 29 rfl) rfl rfl ?_
  refine j_ldcS (i := 0) rfl rfl (D_Text_init 30 rfl) ?_
  refine j_cKi (As := []) (c_String_length (i := 0) (by decide)) rfl lk_Text_34 mok_String_length (by decide) (by decide) rfl rfl (Nat.le_of_ble_eq_true rfl) (D_Text_init 31 rfl) (fun _ => ?_) (by decide)
  refine j_top0 (x' := 199) (by decide +kernel) ?_
  refine j_ic_ge (tgt := 101) (D_Text_init 32 rfl) rfl (wr_lit rfl) (wr_lit rfl) (fun _ => ?_) (fun h => absurd (by decide) h)
  exact j_vret (D_Text_init 51 rfl) rfl rfl rfl ⟨rfl, rfl, rfl⟩
def gk_10 : GS := (sp gk_8 0 2 15)
def gk_11 : GS := (sp (sp gk_10 21 2 22) 21 0 15)
def tb_LawReader_init : List (Nat × Instr × Nat) := [(0, .aload_n 0, 1), (1, .invokespecial 3, 3), (4, .aload_n 0, 1), (5, .bipush 64, 2), (7, .newarray .int, 2), (9, .putfield 9, 3), (12, .aload_n 0, 1), (13, .aload_n 1, 1), (14, .putfield 15, 3), (17, .return_, 1)]
theorem D_LawReader_init (i : Nat) {pc len : Nat} {ins : Instr} (hi : tb_LawReader_init[i]? = some (pc, ins, len)) : decode M_LawReader_init.2.1 pc = .ok (ins, len) := dec_of (by decide +kernel) i hi
set_option maxHeartbeats 4000000 in
set_option maxRecDepth 100000 in
theorem ck_12 {X : XT} : Call X false 5 1 64 M_LawReader_init [rf X 21, rf X 15] 22 gk_10 (fun v a2 G2 => v = none ∧ a2 = 23 ∧ G2 = gk_11) := by
  refine Call_of_J cw_LawReader_init (by decide +kernel) (Nat.le_of_ble_eq_true rfl) ?_
  show J X false 5 1 64 M_LawReader_init _ 22 0 0 0 [(0, rf X 21), (1, rf X 15)] [] gk_10
  refine j_aloadn (k := 0) (D_LawReader_init 0 rfl) rfl rfl ?_
  refine j_objI rfl lo_LawReader_3 oi.1 oi.2 (by decide) (by decide) (D_LawReader_init 1 rfl) ?_
  refine j_aloadn (k := 0) (D_LawReader_init 2 rfl) rfl rfl ?_
  refine j_bipush (v := 64) (D_LawReader_init 3 rfl) rfl ?_
  refine j_newI (N := 64) kd_22 aw_I (wr_lit rfl) rfl (by decide) (by decide) (by decide) (D_LawReader_init 4 rfl) ?_
  refine j_putRF rfl rfl ho_LawReader fa_LawReader_9 (by first | exact Or.inl ⟨_, rfl⟩ | exact Or.inr ⟨_, rfl⟩) kd_21 (by decide) (by decide) rfl (by decide) rfl (D_LawReader_init 5 rfl) ?_
  refine j_aloadn (k := 0) (D_LawReader_init 6 rfl) rfl rfl ?_
  refine j_aloadn (k := 1) (D_LawReader_init 7 rfl) rfl rfl ?_
  refine j_putRF rfl rfl ho_LawReader fa_LawReader_15 (by first | exact Or.inl ⟨_, rfl⟩ | exact Or.inr ⟨_, rfl⟩) kd_21 (by decide) (by decide) rfl (by decide) rfl (D_LawReader_init 8 rfl) ?_
  exact j_vret (D_LawReader_init 9 rfl) rfl rfl rfl ⟨rfl, rfl, rfl⟩
def gk_13 : GS := (sp gk_11 0 3 21)
def gk_14 : GS := (fillG (sp (sp (sp (sp (sp gk_13 23 0 24) 23 1 25) 23 2 26) 23 3 27) 23 4 28) 24 16 (-1))
def tb_Remembered_init : List (Nat × Instr × Nat) := [(0, .aload_n 0, 1), (1, .invokespecial 3, 3), (4, .aload_n 0, 1), (5, .bipush 16, 2), (7, .newarray .int, 2), (9, .putfield 11, 3), (12, .aload_n 0, 1), (13, .bipush 32, 2), (15, .newarray .int, 2), (17, .putfield 17, 3), (20, .aload_n 0, 1), (21, .sipush 768, 3), (24, .newarray .int, 2), (26, .putfield 20, 3), (29, .aload_n 0, 1), (30, .sipush 768, 3), (33, .newarray .int, 2), (35, .putfield 23, 3), (38, .aload_n 0, 1), (39, .sipush 768, 3), (42, .newarray .int, 2), (44, .putfield 26, 3), (47, .aload_n 0, 1), (48, .getfield 11, 3), (51, .iconst (-1), 1), (52, .invokestatic 29, 3), (55, .return_, 1)]
theorem D_Remembered_init (i : Nat) {pc len : Nat} {ins : Instr} (hi : tb_Remembered_init[i]? = some (pc, ins, len)) : decode M_Remembered_init.2.1 pc = .ok (ins, len) := dec_of (by decide +kernel) i hi
set_option maxHeartbeats 4000000 in
set_option maxRecDepth 100000 in
theorem ck_15 {X : XT} : Call X false 6 5 2352 M_Remembered_init [rf X 23] 24 gk_13 (fun v a2 G2 => v = none ∧ a2 = 29 ∧ G2 = gk_14) := by
  refine Call_of_J cw_Remembered_init (by decide +kernel) (Nat.le_of_ble_eq_true rfl) ?_
  show J X false 6 5 2352 M_Remembered_init _ 24 0 0 0 [(0, rf X 23)] [] gk_13
  refine j_aloadn (k := 0) (D_Remembered_init 0 rfl) rfl rfl ?_
  refine j_objI rfl lo_Remembered_3 oi.1 oi.2 (by decide) (by decide) (D_Remembered_init 1 rfl) ?_
  refine j_aloadn (k := 0) (D_Remembered_init 2 rfl) rfl rfl ?_
  refine j_bipush (v := 16) (D_Remembered_init 3 rfl) rfl ?_
  refine j_newI (N := 16) kd_24 aw_I (wr_lit rfl) rfl (by decide) (by decide) (by decide) (D_Remembered_init 4 rfl) ?_
  refine j_putRF rfl rfl ho_Remembered fa_Remembered_11 (by first | exact Or.inl ⟨_, rfl⟩ | exact Or.inr ⟨_, rfl⟩) kd_23 (by decide) (by decide) rfl (by decide) rfl (D_Remembered_init 5 rfl) ?_
  refine j_aloadn (k := 0) (D_Remembered_init 6 rfl) rfl rfl ?_
  refine j_bipush (v := 32) (D_Remembered_init 7 rfl) rfl ?_
  refine j_newI (N := 32) kd_25 aw_I (wr_lit rfl) rfl (by decide) (by decide) (by decide) (D_Remembered_init 8 rfl) ?_
  refine j_putRF rfl rfl ho_Remembered fa_Remembered_17 (by first | exact Or.inl ⟨_, rfl⟩ | exact Or.inr ⟨_, rfl⟩) kd_23 (by decide) (by decide) rfl (by decide) rfl (D_Remembered_init 9 rfl) ?_
  refine j_aloadn (k := 0) (D_Remembered_init 10 rfl) rfl rfl ?_
  refine j_sipush (v := 768) (D_Remembered_init 11 rfl) rfl ?_
  refine j_newI (N := 768) kd_26 aw_I (wr_lit rfl) rfl (by decide) (by decide) (by decide) (D_Remembered_init 12 rfl) ?_
  refine j_putRF rfl rfl ho_Remembered fa_Remembered_20 (by first | exact Or.inl ⟨_, rfl⟩ | exact Or.inr ⟨_, rfl⟩) kd_23 (by decide) (by decide) rfl (by decide) rfl (D_Remembered_init 13 rfl) ?_
  refine j_aloadn (k := 0) (D_Remembered_init 14 rfl) rfl rfl ?_
  refine j_sipush (v := 768) (D_Remembered_init 15 rfl) rfl ?_
  refine j_newI (N := 768) kd_27 aw_I (wr_lit rfl) rfl (by decide) (by decide) (by decide) (D_Remembered_init 16 rfl) ?_
  refine j_putRF rfl rfl ho_Remembered fa_Remembered_23 (by first | exact Or.inl ⟨_, rfl⟩ | exact Or.inr ⟨_, rfl⟩) kd_23 (by decide) (by decide) rfl (by decide) rfl (D_Remembered_init 17 rfl) ?_
  refine j_aloadn (k := 0) (D_Remembered_init 18 rfl) rfl rfl ?_
  refine j_sipush (v := 768) (D_Remembered_init 19 rfl) rfl ?_
  refine j_newI (N := 768) kd_28 aw_I (wr_lit rfl) rfl (by decide) (by decide) (by decide) (D_Remembered_init 20 rfl) ?_
  refine j_putRF rfl rfl ho_Remembered fa_Remembered_26 (by first | exact Or.inl ⟨_, rfl⟩ | exact Or.inr ⟨_, rfl⟩) kd_23 (by decide) (by decide) rfl (by decide) rfl (D_Remembered_init 21 rfl) ?_
  refine j_aloadn (k := 0) (D_Remembered_init 22 rfl) rfl rfl ?_
  refine j_getR (t := 24) rfl fa_Remembered_11 kd_23 (by decide) (by decide) rfl (fun _ => by decide +kernel) (by decide) (D_Remembered_init 23 rfl) ?_
  refine j_iconst (v := (-1)) (D_Remembered_init 24 rfl) rfl ?_
  refine j_callS (As := [rf X 24, vi (-1)]) (kk := 2) rfl lk_Remembered_29 sokfill (by decide) (by decide) rfl rfl (Nat.le_of_ble_eq_true rfl) (c_fillG kd_24 (by decide) (by decide) (wr_lit rfl)) (D_Remembered_init 25 rfl) (fun w a2 G2 q => ?_)
  obtain ⟨rfl, rfl, rfl⟩ := q
  exact j_vret (D_Remembered_init 26 rfl) rfl rfl rfl ⟨rfl, rfl, rfl⟩
def gk_16 : GS := (sp gk_14 0 4 23)
def gk_17 : GS := (sp (sp gk_16 29 0 15) 29 1 23)
def tb_MemoryReader_init : List (Nat × Instr × Nat) := [(0, .aload_n 0, 1), (1, .invokespecial 3, 3), (4, .aload_n 0, 1), (5, .aload_n 1, 1), (6, .putfield 9, 3), (9, .aload_n 0, 1), (10, .aload_n 2, 1), (11, .putfield 15, 3), (14, .return_, 1)]
theorem D_MemoryReader_init (i : Nat) {pc len : Nat} {ins : Instr} (hi : tb_MemoryReader_init[i]? = some (pc, ins, len)) : decode M_MemoryReader_init.2.1 pc = .ok (ins, len) := dec_of (by decide +kernel) i hi
set_option maxHeartbeats 4000000 in
set_option maxRecDepth 100000 in
theorem ck_18 {X : XT} : Call X false 5 0 0 M_MemoryReader_init [rf X 29, rf X 15, rf X 23] 30 gk_16 (fun v a2 G2 => v = none ∧ a2 = 30 ∧ G2 = gk_17) := by
  refine Call_of_J cw_MemoryReader_init (by decide +kernel) (Nat.le_of_ble_eq_true rfl) ?_
  show J X false 5 0 0 M_MemoryReader_init _ 30 0 0 0 [(0, rf X 29), (1, rf X 15), (2, rf X 23)] [] gk_16
  refine j_aloadn (k := 0) (D_MemoryReader_init 0 rfl) rfl rfl ?_
  refine j_objI rfl lo_MemoryReader_3 oi.1 oi.2 (by decide) (by decide) (D_MemoryReader_init 1 rfl) ?_
  refine j_aloadn (k := 0) (D_MemoryReader_init 2 rfl) rfl rfl ?_
  refine j_aloadn (k := 1) (D_MemoryReader_init 3 rfl) rfl rfl ?_
  refine j_putRF rfl rfl ho_MemoryReader fa_MemoryReader_9 (by first | exact Or.inl ⟨_, rfl⟩ | exact Or.inr ⟨_, rfl⟩) kd_29 (by decide) (by decide) rfl (by decide) rfl (D_MemoryReader_init 4 rfl) ?_
  refine j_aloadn (k := 0) (D_MemoryReader_init 5 rfl) rfl rfl ?_
  refine j_aloadn (k := 2) (D_MemoryReader_init 6 rfl) rfl rfl ?_
  refine j_putRF rfl rfl ho_MemoryReader fa_MemoryReader_15 (by first | exact Or.inl ⟨_, rfl⟩ | exact Or.inr ⟨_, rfl⟩) kd_29 (by decide) (by decide) rfl (by decide) rfl (D_MemoryReader_init 7 rfl) ?_
  exact j_vret (D_MemoryReader_init 8 rfl) rfl rfl rfl ⟨rfl, rfl, rfl⟩
def gk_19 : GS := (sp gk_17 0 5 29)
def gk_20 : GS := (sp (sp (sp (sp (sp gk_19 30 4 31) 30 5 32) 30 6 33) 30 7 34) 30 0 1)
def tb_Descent_init : List (Nat × Instr × Nat) := [(0, .aload_n 0, 1), (1, .invokespecial 5, 3), (4, .aload_n 0, 1), (5, .bipush 33, 2), (7, .newarray .int, 2), (9, .putfield 11, 3), (12, .aload_n 0, 1), (13, .bipush 33, 2), (15, .newarray .int, 2), (17, .putfield 17, 3), (20, .aload_n 0, 1), (21, .bipush 33, 2), (23, .newarray .long, 2), (25, .putfield 20, 3), (28, .aload_n 0, 1), (29, .bipush 33, 2), (31, .newarray .long, 2), (33, .putfield 24, 3), (36, .aload_n 0, 1), (37, .aload_n 1, 1), (38, .putfield 27, 3), (41, .return_, 1)]
theorem D_Descent_init (i : Nat) {pc len : Nat} {ins : Instr} (hi : tb_Descent_init[i]? = some (pc, ins, len)) : decode M_Descent_init.2.1 pc = .ok (ins, len) := dec_of (by decide +kernel) i hi
set_option maxHeartbeats 4000000 in
set_option maxRecDepth 100000 in
theorem ck_21 {X : XT} : Call X false 5 4 132 M_Descent_init [rf X 30, rf X 1] 31 gk_19 (fun v a2 G2 => v = none ∧ a2 = 35 ∧ G2 = gk_20) := by
  refine Call_of_J cw_Descent_init (by decide +kernel) (Nat.le_of_ble_eq_true rfl) ?_
  show J X false 5 4 132 M_Descent_init _ 31 0 0 0 [(0, rf X 30), (1, rf X 1)] [] gk_19
  refine j_aloadn (k := 0) (D_Descent_init 0 rfl) rfl rfl ?_
  refine j_objI rfl lo_Descent_5 oi.1 oi.2 (by decide) (by decide) (D_Descent_init 1 rfl) ?_
  refine j_aloadn (k := 0) (D_Descent_init 2 rfl) rfl rfl ?_
  refine j_bipush (v := 33) (D_Descent_init 3 rfl) rfl ?_
  refine j_newI (N := 33) kd_31 aw_I (wr_lit rfl) rfl (by decide) (by decide) (by decide) (D_Descent_init 4 rfl) ?_
  refine j_putRF rfl rfl ho_Descent fa_Descent_11 (by first | exact Or.inl ⟨_, rfl⟩ | exact Or.inr ⟨_, rfl⟩) kd_30 (by decide) (by decide) rfl (by decide) rfl (D_Descent_init 5 rfl) ?_
  refine j_aloadn (k := 0) (D_Descent_init 6 rfl) rfl rfl ?_
  refine j_bipush (v := 33) (D_Descent_init 7 rfl) rfl ?_
  refine j_newI (N := 33) kd_32 aw_I (wr_lit rfl) rfl (by decide) (by decide) (by decide) (D_Descent_init 8 rfl) ?_
  refine j_putRF rfl rfl ho_Descent fa_Descent_17 (by first | exact Or.inl ⟨_, rfl⟩ | exact Or.inr ⟨_, rfl⟩) kd_30 (by decide) (by decide) rfl (by decide) rfl (D_Descent_init 9 rfl) ?_
  refine j_aloadn (k := 0) (D_Descent_init 10 rfl) rfl rfl ?_
  refine j_bipush (v := 33) (D_Descent_init 11 rfl) rfl ?_
  refine j_newJ (N := 33) kd_33 aw_J (wr_lit rfl) rfl (by decide) (by decide) (by decide) (D_Descent_init 12 rfl) ?_
  refine j_putRF rfl rfl ho_Descent fa_Descent_20 (by first | exact Or.inl ⟨_, rfl⟩ | exact Or.inr ⟨_, rfl⟩) kd_30 (by decide) (by decide) rfl (by decide) rfl (D_Descent_init 13 rfl) ?_
  refine j_aloadn (k := 0) (D_Descent_init 14 rfl) rfl rfl ?_
  refine j_bipush (v := 33) (D_Descent_init 15 rfl) rfl ?_
  refine j_newJ (N := 33) kd_34 aw_J (wr_lit rfl) rfl (by decide) (by decide) (by decide) (D_Descent_init 16 rfl) ?_
  refine j_putRF rfl rfl ho_Descent fa_Descent_24 (by first | exact Or.inl ⟨_, rfl⟩ | exact Or.inr ⟨_, rfl⟩) kd_30 (by decide) (by decide) rfl (by decide) rfl (D_Descent_init 17 rfl) ?_
  refine j_aloadn (k := 0) (D_Descent_init 18 rfl) rfl rfl ?_
  refine j_aloadn (k := 1) (D_Descent_init 19 rfl) rfl rfl ?_
  refine j_putRF rfl rfl ho_Descent fa_Descent_27 (by first | exact Or.inl ⟨_, rfl⟩ | exact Or.inr ⟨_, rfl⟩) kd_30 (by decide) (by decide) rfl (by decide) rfl (D_Descent_init 20 rfl) ?_
  exact j_vret (D_Descent_init 21 rfl) rfl rfl rfl ⟨rfl, rfl, rfl⟩
def gk_22 : GS := (sp gk_20 0 6 30)
def gk_23 : GS := (sp (sp gk_22 35 0 36) 35 1 37)
def tb_Reckoner_init : List (Nat × Instr × Nat) := [(0, .aload_n 0, 1), (1, .invokespecial 3, 3), (4, .aload_n 0, 1), (5, .bipush 7, 2), (7, .newarray .int, 2), (9, .putfield 9, 3), (12, .aload_n 0, 1), (13, .bipush 64, 2), (15, .newarray .int, 2), (17, .putfield 15, 3), (20, .return_, 1)]
theorem D_Reckoner_init (i : Nat) {pc len : Nat} {ins : Instr} (hi : tb_Reckoner_init[i]? = some (pc, ins, len)) : decode M_Reckoner_init.2.1 pc = .ok (ins, len) := dec_of (by decide +kernel) i hi
set_option maxHeartbeats 4000000 in
set_option maxRecDepth 100000 in
theorem ck_24 {X : XT} : Call X false 5 2 71 M_Reckoner_init [rf X 35] 36 gk_22 (fun v a2 G2 => v = none ∧ a2 = 38 ∧ G2 = gk_23) := by
  refine Call_of_J cw_Reckoner_init (by decide +kernel) (Nat.le_of_ble_eq_true rfl) ?_
  show J X false 5 2 71 M_Reckoner_init _ 36 0 0 0 [(0, rf X 35)] [] gk_22
  refine j_aloadn (k := 0) (D_Reckoner_init 0 rfl) rfl rfl ?_
  refine j_objI rfl lo_Reckoner_3 oi.1 oi.2 (by decide) (by decide) (D_Reckoner_init 1 rfl) ?_
  refine j_aloadn (k := 0) (D_Reckoner_init 2 rfl) rfl rfl ?_
  refine j_bipush (v := 7) (D_Reckoner_init 3 rfl) rfl ?_
  refine j_newI (N := 7) kd_36 aw_I (wr_lit rfl) rfl (by decide) (by decide) (by decide) (D_Reckoner_init 4 rfl) ?_
  refine j_putRF rfl rfl ho_Reckoner fa_Reckoner_9 (by first | exact Or.inl ⟨_, rfl⟩ | exact Or.inr ⟨_, rfl⟩) kd_35 (by decide) (by decide) rfl (by decide) rfl (D_Reckoner_init 5 rfl) ?_
  refine j_aloadn (k := 0) (D_Reckoner_init 6 rfl) rfl rfl ?_
  refine j_bipush (v := 64) (D_Reckoner_init 7 rfl) rfl ?_
  refine j_newI (N := 64) kd_37 aw_I (wr_lit rfl) rfl (by decide) (by decide) (by decide) (D_Reckoner_init 8 rfl) ?_
  refine j_putRF rfl rfl ho_Reckoner fa_Reckoner_15 (by first | exact Or.inl ⟨_, rfl⟩ | exact Or.inr ⟨_, rfl⟩) kd_35 (by decide) (by decide) rfl (by decide) rfl (D_Reckoner_init 9 rfl) ?_
  exact j_vret (D_Reckoner_init 10 rfl) rfl rfl rfl ⟨rfl, rfl, rfl⟩
def gk_25 : GS := (sp gk_23 0 7 35)
def gk_26 : GS := (sp (sp (sp (sp (sp (sp gk_25 38 0 39) 38 1 40) 38 2 41) 38 3 42) 38 4 43) 38 5 44)
def tb_Seizings_init : List (Nat × Instr × Nat) := [(0, .aload_n 0, 1), (1, .invokespecial 3, 3), (4, .aload_n 0, 1), (5, .bipush 100, 2), (7, .newarray .int, 2), (9, .putfield 11, 3), (12, .aload_n 0, 1), (13, .bipush 100, 2), (15, .newarray .int, 2), (17, .putfield 15, 3), (20, .aload_n 0, 1), (21, .bipush 100, 2), (23, .newarray .int, 2), (25, .putfield 18, 3), (28, .aload_n 0, 1), (29, .bipush 100, 2), (31, .newarray .int, 2), (33, .putfield 21, 3), (36, .aload_n 0, 1), (37, .bipush 100, 2), (39, .newarray .int, 2), (41, .putfield 24, 3), (44, .aload_n 0, 1), (45, .bipush 100, 2), (47, .newarray .int, 2), (49, .putfield 27, 3), (52, .return_, 1)]
theorem D_Seizings_init (i : Nat) {pc len : Nat} {ins : Instr} (hi : tb_Seizings_init[i]? = some (pc, ins, len)) : decode M_Seizings_init.2.1 pc = .ok (ins, len) := dec_of (by decide +kernel) i hi
set_option maxHeartbeats 4000000 in
set_option maxRecDepth 100000 in
theorem ck_27 {X : XT} : Call X false 5 6 600 M_Seizings_init [rf X 38] 39 gk_25 (fun v a2 G2 => v = none ∧ a2 = 45 ∧ G2 = gk_26) := by
  refine Call_of_J cw_Seizings_init (by decide +kernel) (Nat.le_of_ble_eq_true rfl) ?_
  show J X false 5 6 600 M_Seizings_init _ 39 0 0 0 [(0, rf X 38)] [] gk_25
  refine j_aloadn (k := 0) (D_Seizings_init 0 rfl) rfl rfl ?_
  refine j_objI rfl lo_Seizings_3 oi.1 oi.2 (by decide) (by decide) (D_Seizings_init 1 rfl) ?_
  refine j_aloadn (k := 0) (D_Seizings_init 2 rfl) rfl rfl ?_
  refine j_bipush (v := 100) (D_Seizings_init 3 rfl) rfl ?_
  refine j_newI (N := 100) kd_39 aw_I (wr_lit rfl) rfl (by decide) (by decide) (by decide) (D_Seizings_init 4 rfl) ?_
  refine j_putRF rfl rfl ho_Seizings fa_Seizings_11 (by first | exact Or.inl ⟨_, rfl⟩ | exact Or.inr ⟨_, rfl⟩) kd_38 (by decide) (by decide) rfl (by decide) rfl (D_Seizings_init 5 rfl) ?_
  refine j_aloadn (k := 0) (D_Seizings_init 6 rfl) rfl rfl ?_
  refine j_bipush (v := 100) (D_Seizings_init 7 rfl) rfl ?_
  refine j_newI (N := 100) kd_40 aw_I (wr_lit rfl) rfl (by decide) (by decide) (by decide) (D_Seizings_init 8 rfl) ?_
  refine j_putRF rfl rfl ho_Seizings fa_Seizings_15 (by first | exact Or.inl ⟨_, rfl⟩ | exact Or.inr ⟨_, rfl⟩) kd_38 (by decide) (by decide) rfl (by decide) rfl (D_Seizings_init 9 rfl) ?_
  refine j_aloadn (k := 0) (D_Seizings_init 10 rfl) rfl rfl ?_
  refine j_bipush (v := 100) (D_Seizings_init 11 rfl) rfl ?_
  refine j_newI (N := 100) kd_41 aw_I (wr_lit rfl) rfl (by decide) (by decide) (by decide) (D_Seizings_init 12 rfl) ?_
  refine j_putRF rfl rfl ho_Seizings fa_Seizings_18 (by first | exact Or.inl ⟨_, rfl⟩ | exact Or.inr ⟨_, rfl⟩) kd_38 (by decide) (by decide) rfl (by decide) rfl (D_Seizings_init 13 rfl) ?_
  refine j_aloadn (k := 0) (D_Seizings_init 14 rfl) rfl rfl ?_
  refine j_bipush (v := 100) (D_Seizings_init 15 rfl) rfl ?_
  refine j_newI (N := 100) kd_42 aw_I (wr_lit rfl) rfl (by decide) (by decide) (by decide) (D_Seizings_init 16 rfl) ?_
  refine j_putRF rfl rfl ho_Seizings fa_Seizings_21 (by first | exact Or.inl ⟨_, rfl⟩ | exact Or.inr ⟨_, rfl⟩) kd_38 (by decide) (by decide) rfl (by decide) rfl (D_Seizings_init 17 rfl) ?_
  refine j_aloadn (k := 0) (D_Seizings_init 18 rfl) rfl rfl ?_
  refine j_bipush (v := 100) (D_Seizings_init 19 rfl) rfl ?_
  refine j_newI (N := 100) kd_43 aw_I (wr_lit rfl) rfl (by decide) (by decide) (by decide) (D_Seizings_init 20 rfl) ?_
  refine j_putRF rfl rfl ho_Seizings fa_Seizings_24 (by first | exact Or.inl ⟨_, rfl⟩ | exact Or.inr ⟨_, rfl⟩) kd_38 (by decide) (by decide) rfl (by decide) rfl (D_Seizings_init 21 rfl) ?_
  refine j_aloadn (k := 0) (D_Seizings_init 22 rfl) rfl rfl ?_
  refine j_bipush (v := 100) (D_Seizings_init 23 rfl) rfl ?_
  refine j_newI (N := 100) kd_44 aw_I (wr_lit rfl) rfl (by decide) (by decide) (by decide) (D_Seizings_init 24 rfl) ?_
  refine j_putRF rfl rfl ho_Seizings fa_Seizings_27 (by first | exact Or.inl ⟨_, rfl⟩ | exact Or.inr ⟨_, rfl⟩) kd_38 (by decide) (by decide) rfl (by decide) rfl (D_Seizings_init 25 rfl) ?_
  exact j_vret (D_Seizings_init 26 rfl) rfl rfl rfl ⟨rfl, rfl, rfl⟩
def gk_28 : GS := (sp gk_26 0 8 38)
def gk_29 : GS := (fillG (sp (sp (sp gk_28 45 0 46) 45 1 47) 45 2 48) 46 120 (-2))
def tb_Juries_init : List (Nat × Instr × Nat) := [(0, .aload_n 0, 1), (1, .invokespecial 3, 3), (4, .aload_n 0, 1), (5, .bipush 120, 2), (7, .newarray .int, 2), (9, .putfield 13, 3), (12, .aload_n 0, 1), (13, .bipush 10, 2), (15, .newarray .int, 2), (17, .putfield 17, 3), (20, .aload_n 0, 1), (21, .bipush 12, 2), (23, .newarray .int, 2), (25, .putfield 20, 3), (28, .aload_n 0, 1), (29, .getfield 13, 3), (32, .bipush (-2), 2), (34, .invokestatic 23, 3), (37, .return_, 1)]
theorem D_Juries_init (i : Nat) {pc len : Nat} {ins : Instr} (hi : tb_Juries_init[i]? = some (pc, ins, len)) : decode M_Juries_init.2.1 pc = .ok (ins, len) := dec_of (by decide +kernel) i hi
set_option maxHeartbeats 4000000 in
set_option maxRecDepth 100000 in
theorem ck_30 {X : XT} : Call X false 6 3 142 M_Juries_init [rf X 45] 46 gk_28 (fun v a2 G2 => v = none ∧ a2 = 49 ∧ G2 = gk_29) := by
  refine Call_of_J cw_Juries_init (by decide +kernel) (Nat.le_of_ble_eq_true rfl) ?_
  show J X false 6 3 142 M_Juries_init _ 46 0 0 0 [(0, rf X 45)] [] gk_28
  refine j_aloadn (k := 0) (D_Juries_init 0 rfl) rfl rfl ?_
  refine j_objI rfl lo_Juries_3 oi.1 oi.2 (by decide) (by decide) (D_Juries_init 1 rfl) ?_
  refine j_aloadn (k := 0) (D_Juries_init 2 rfl) rfl rfl ?_
  refine j_bipush (v := 120) (D_Juries_init 3 rfl) rfl ?_
  refine j_newI (N := 120) kd_46 aw_I (wr_lit rfl) rfl (by decide) (by decide) (by decide) (D_Juries_init 4 rfl) ?_
  refine j_putRF rfl rfl ho_Juries fa_Juries_13 (by first | exact Or.inl ⟨_, rfl⟩ | exact Or.inr ⟨_, rfl⟩) kd_45 (by decide) (by decide) rfl (by decide) rfl (D_Juries_init 5 rfl) ?_
  refine j_aloadn (k := 0) (D_Juries_init 6 rfl) rfl rfl ?_
  refine j_bipush (v := 10) (D_Juries_init 7 rfl) rfl ?_
  refine j_newI (N := 10) kd_47 aw_I (wr_lit rfl) rfl (by decide) (by decide) (by decide) (D_Juries_init 8 rfl) ?_
  refine j_putRF rfl rfl ho_Juries fa_Juries_17 (by first | exact Or.inl ⟨_, rfl⟩ | exact Or.inr ⟨_, rfl⟩) kd_45 (by decide) (by decide) rfl (by decide) rfl (D_Juries_init 9 rfl) ?_
  refine j_aloadn (k := 0) (D_Juries_init 10 rfl) rfl rfl ?_
  refine j_bipush (v := 12) (D_Juries_init 11 rfl) rfl ?_
  refine j_newI (N := 12) kd_48 aw_I (wr_lit rfl) rfl (by decide) (by decide) (by decide) (D_Juries_init 12 rfl) ?_
  refine j_putRF rfl rfl ho_Juries fa_Juries_20 (by first | exact Or.inl ⟨_, rfl⟩ | exact Or.inr ⟨_, rfl⟩) kd_45 (by decide) (by decide) rfl (by decide) rfl (D_Juries_init 13 rfl) ?_
  refine j_aloadn (k := 0) (D_Juries_init 14 rfl) rfl rfl ?_
  refine j_getR (t := 46) rfl fa_Juries_13 kd_45 (by decide) (by decide) rfl (fun _ => by decide +kernel) (by decide) (D_Juries_init 15 rfl) ?_
  refine j_bipush (v := (-2)) (D_Juries_init 16 rfl) rfl ?_
  refine j_callS (As := [rf X 46, vi (-2)]) (kk := 2) rfl lk_Juries_23 sokfill (by decide) (by decide) rfl rfl (Nat.le_of_ble_eq_true rfl) (c_fillG kd_46 (by decide) (by decide) (wr_lit rfl)) (D_Juries_init 17 rfl) (fun w a2 G2 q => ?_)
  obtain ⟨rfl, rfl, rfl⟩ := q
  exact j_vret (D_Juries_init 18 rfl) rfl rfl rfl ⟨rfl, rfl, rfl⟩
def gk_31 : GS := (sp (sp gk_29 0 9 45) 0 10 49)
def gk_32 : GS := (sp (sp (sp (sp (sp gk_31 50 0 51) 50 1 52) 50 2 53) 50 3 54) 50 8 55)
def gk_33 : GS := (si (si (si (si (si (fillG (fillG (fillG (fillG gk_32 51 4 0) 52 3 0) 53 3 0) 54 3 0) 50 4 1) 50 5 3) 50 6 9999) 50 7 9999) 50 9 0)
set_option maxHeartbeats 4000000 in
set_option maxRecDepth 100000 in
theorem ck_34 {X : XT} : Call X false 6 0 0 M_Law_reset [rf X 50] 56 gk_32 (fun v a2 G2 => v = none ∧ a2 = 56 ∧ G2 = gk_33) := by
  refine Call_of_J cw_Law_reset (by decide +kernel) (Nat.le_of_ble_eq_true rfl) ?_
  show J X false 6 0 0 M_Law_reset _ 56 0 0 0 [(0, rf X 50)] [] gk_32
  refine j_aloadn (k := 0) (D_Law_reset 0 rfl) rfl rfl ?_
  refine j_getR (t := 51) rfl fa_Law_9 kd_50 (by decide) (by decide) rfl (fun _ => by decide +kernel) (by decide) (D_Law_reset 1 rfl) ?_
  refine j_iconst (v := 0) (D_Law_reset 2 rfl) rfl ?_
  refine j_callS (As := [rf X 51, vi 0]) (kk := 2) rfl lk_Law_32 sokfill (by decide) (by decide) rfl rfl (Nat.le_of_ble_eq_true rfl) (c_fillG kd_51 (by decide) (by decide) (wr_lit rfl)) (D_Law_reset 3 rfl) (fun w a2 G2 q => ?_)
  obtain ⟨rfl, rfl, rfl⟩ := q
  refine j_aloadn (k := 0) (D_Law_reset 4 rfl) rfl rfl ?_
  refine j_getR (t := 52) rfl fa_Law_15 kd_50 (by decide) (by decide) rfl (fun _ => by decide +kernel) (by decide) (D_Law_reset 5 rfl) ?_
  refine j_iconst (v := 0) (D_Law_reset 6 rfl) rfl ?_
  refine j_callS (As := [rf X 52, vi 0]) (kk := 2) rfl lk_Law_32 sokfill (by decide) (by decide) rfl rfl (Nat.le_of_ble_eq_true rfl) (c_fillG kd_52 (by decide) (by decide) (wr_lit rfl)) (D_Law_reset 7 rfl) (fun w a2 G2 q => ?_)
  obtain ⟨rfl, rfl, rfl⟩ := q
  refine j_aloadn (k := 0) (D_Law_reset 8 rfl) rfl rfl ?_
  refine j_getR (t := 53) rfl fa_Law_18 kd_50 (by decide) (by decide) rfl (fun _ => by decide +kernel) (by decide) (D_Law_reset 9 rfl) ?_
  refine j_iconst (v := 0) (D_Law_reset 10 rfl) rfl ?_
  refine j_callS (As := [rf X 53, vi 0]) (kk := 2) rfl lk_Law_32 sokfill (by decide) (by decide) rfl rfl (Nat.le_of_ble_eq_true rfl) (c_fillG kd_53 (by decide) (by decide) (wr_lit rfl)) (D_Law_reset 11 rfl) (fun w a2 G2 q => ?_)
  obtain ⟨rfl, rfl, rfl⟩ := q
  refine j_aloadn (k := 0) (D_Law_reset 12 rfl) rfl rfl ?_
  refine j_getR (t := 54) rfl fa_Law_21 kd_50 (by decide) (by decide) rfl (fun _ => by decide +kernel) (by decide) (D_Law_reset 13 rfl) ?_
  refine j_iconst (v := 0) (D_Law_reset 14 rfl) rfl ?_
  refine j_callS (As := [rf X 54, vi 0]) (kk := 2) rfl lk_Law_32 sokfill (by decide) (by decide) rfl rfl (Nat.le_of_ble_eq_true rfl) (c_fillG kd_54 (by decide) (by decide) (wr_lit rfl)) (D_Law_reset 15 rfl) (fun w a2 G2 q => ?_)
  obtain ⟨rfl, rfl, rfl⟩ := q
  refine j_aloadn (k := 0) (D_Law_reset 16 rfl) rfl rfl ?_
  refine j_iconst (v := 1) (D_Law_reset 17 rfl) rfl ?_
  refine j_putI rfl fa_Law_38 kd_50 (by decide) (by decide) rfl (D_Law_reset 18 rfl) ?_
  refine j_aloadn (k := 0) (D_Law_reset 19 rfl) rfl rfl ?_
  refine j_iconst (v := 3) (D_Law_reset 20 rfl) rfl ?_
  refine j_putI rfl fa_Law_42 kd_50 (by decide) (by decide) rfl (D_Law_reset 21 rfl) ?_
  refine j_aloadn (k := 0) (D_Law_reset 22 rfl) rfl rfl ?_
  refine j_sipush (v := 9999) (D_Law_reset 23 rfl) rfl ?_
  refine j_putI rfl fa_Law_45 kd_50 (by decide) (by decide) rfl (D_Law_reset 24 rfl) ?_
  refine j_aloadn (k := 0) (D_Law_reset 25 rfl) rfl rfl ?_
  refine j_sipush (v := 9999) (D_Law_reset 26 rfl) rfl ?_
  refine j_putI rfl fa_Law_48 kd_50 (by decide) (by decide) rfl (D_Law_reset 27 rfl) ?_
  refine j_aloadn (k := 0) (D_Law_reset 28 rfl) rfl rfl ?_
  refine j_iconst (v := 0) (D_Law_reset 29 rfl) rfl ?_
  refine j_putI rfl fa_Law_51 kd_50 (by decide) (by decide) rfl (D_Law_reset 30 rfl) ?_
  exact j_vret (D_Law_reset 31 rfl) rfl rfl rfl ⟨rfl, rfl, rfl⟩
def gk_35 : GS := gk_33
def tb_Law_init : List (Nat × Instr × Nat) := [(0, .aload_n 0, 1), (1, .invokespecial 3, 3), (4, .aload_n 0, 1), (5, .iconst 4, 1), (6, .newarray .int, 2), (8, .putfield 9, 3), (11, .aload_n 0, 1), (12, .iconst 3, 1), (13, .newarray .int, 2), (15, .putfield 15, 3), (18, .aload_n 0, 1), (19, .iconst 3, 1), (20, .newarray .int, 2), (22, .putfield 18, 3), (25, .aload_n 0, 1), (26, .iconst 3, 1), (27, .newarray .int, 2), (29, .putfield 21, 3), (32, .aload_n 0, 1), (33, .sipush 800, 3), (36, .newarray .int, 2), (38, .putfield 26, 3), (41, .aload_n 0, 1), (42, .invokevirtual 29, 3), (45, .return_, 1)]
theorem D_Law_init (i : Nat) {pc len : Nat} {ins : Instr} (hi : tb_Law_init[i]? = some (pc, ins, len)) : decode M_Law_init.2.1 pc = .ok (ins, len) := dec_of (by decide +kernel) i hi
set_option maxHeartbeats 4000000 in
set_option maxRecDepth 100000 in
theorem ck_36 {X : XT} : Call X false 7 5 813 M_Law_init [rf X 50] 51 gk_31 (fun v a2 G2 => v = none ∧ a2 = 56 ∧ G2 = gk_35) := by
  refine Call_of_J cw_Law_init (by decide +kernel) (Nat.le_of_ble_eq_true rfl) ?_
  show J X false 7 5 813 M_Law_init _ 51 0 0 0 [(0, rf X 50)] [] gk_31
  refine j_aloadn (k := 0) (D_Law_init 0 rfl) rfl rfl ?_
  refine j_objI rfl lo_Law_3 oi.1 oi.2 (by decide) (by decide) (D_Law_init 1 rfl) ?_
  refine j_aloadn (k := 0) (D_Law_init 2 rfl) rfl rfl ?_
  refine j_iconst (v := 4) (D_Law_init 3 rfl) rfl ?_
  refine j_newI (N := 4) kd_51 aw_I (wr_lit rfl) rfl (by decide) (by decide) (by decide) (D_Law_init 4 rfl) ?_
  refine j_putRF rfl rfl ho_Law fa_Law_9 (by first | exact Or.inl ⟨_, rfl⟩ | exact Or.inr ⟨_, rfl⟩) kd_50 (by decide) (by decide) rfl (by decide) rfl (D_Law_init 5 rfl) ?_
  refine j_aloadn (k := 0) (D_Law_init 6 rfl) rfl rfl ?_
  refine j_iconst (v := 3) (D_Law_init 7 rfl) rfl ?_
  refine j_newI (N := 3) kd_52 aw_I (wr_lit rfl) rfl (by decide) (by decide) (by decide) (D_Law_init 8 rfl) ?_
  refine j_putRF rfl rfl ho_Law fa_Law_15 (by first | exact Or.inl ⟨_, rfl⟩ | exact Or.inr ⟨_, rfl⟩) kd_50 (by decide) (by decide) rfl (by decide) rfl (D_Law_init 9 rfl) ?_
  refine j_aloadn (k := 0) (D_Law_init 10 rfl) rfl rfl ?_
  refine j_iconst (v := 3) (D_Law_init 11 rfl) rfl ?_
  refine j_newI (N := 3) kd_53 aw_I (wr_lit rfl) rfl (by decide) (by decide) (by decide) (D_Law_init 12 rfl) ?_
  refine j_putRF rfl rfl ho_Law fa_Law_18 (by first | exact Or.inl ⟨_, rfl⟩ | exact Or.inr ⟨_, rfl⟩) kd_50 (by decide) (by decide) rfl (by decide) rfl (D_Law_init 13 rfl) ?_
  refine j_aloadn (k := 0) (D_Law_init 14 rfl) rfl rfl ?_
  refine j_iconst (v := 3) (D_Law_init 15 rfl) rfl ?_
  refine j_newI (N := 3) kd_54 aw_I (wr_lit rfl) rfl (by decide) (by decide) (by decide) (D_Law_init 16 rfl) ?_
  refine j_putRF rfl rfl ho_Law fa_Law_21 (by first | exact Or.inl ⟨_, rfl⟩ | exact Or.inr ⟨_, rfl⟩) kd_50 (by decide) (by decide) rfl (by decide) rfl (D_Law_init 17 rfl) ?_
  refine j_aloadn (k := 0) (D_Law_init 18 rfl) rfl rfl ?_
  refine j_sipush (v := 800) (D_Law_init 19 rfl) rfl ?_
  refine j_newI (N := 800) kd_55 aw_I (wr_lit rfl) rfl (by decide) (by decide) (by decide) (D_Law_init 20 rfl) ?_
  refine j_putRF rfl rfl ho_Law fa_Law_26 (by first | exact Or.inl ⟨_, rfl⟩ | exact Or.inr ⟨_, rfl⟩) kd_50 (by decide) (by decide) rfl (by decide) rfl (D_Law_init 21 rfl) ?_
  refine j_aloadn (k := 0) (D_Law_init 22 rfl) rfl rfl ?_
  refine j_callV (As := []) (kk := 0) rfl lk_Law_29 mok_Law_reset kd_50 rfl (by decide) (by decide) (by decide) rfl rfl (Nat.le_of_ble_eq_true rfl) ck_34 (D_Law_init 23 rfl) (fun v a2 G2 q => ?_)
  obtain ⟨rfl, rfl, rfl⟩ := q
  exact j_vret (D_Law_init 24 rfl) rfl rfl rfl ⟨rfl, rfl, rfl⟩
def gk_37 : GS := (sp gk_35 49 (0 : Int).toNat 50)
def gk_38 : GS := (sp (sp (sp (sp (sp gk_37 56 0 57) 56 1 58) 56 2 59) 56 3 60) 56 8 61)
def gk_39 : GS := (si (si (si (si (si (fillG (fillG (fillG (fillG gk_38 57 4 0) 58 3 0) 59 3 0) 60 3 0) 56 4 1) 56 5 3) 56 6 9999) 56 7 9999) 56 9 0)
set_option maxHeartbeats 4000000 in
set_option maxRecDepth 100000 in
theorem ck_40 {X : XT} : Call X false 6 0 0 M_Law_reset [rf X 56] 62 gk_38 (fun v a2 G2 => v = none ∧ a2 = 62 ∧ G2 = gk_39) := by
  refine Call_of_J cw_Law_reset (by decide +kernel) (Nat.le_of_ble_eq_true rfl) ?_
  show J X false 6 0 0 M_Law_reset _ 62 0 0 0 [(0, rf X 56)] [] gk_38
  refine j_aloadn (k := 0) (D_Law_reset 0 rfl) rfl rfl ?_
  refine j_getR (t := 57) rfl fa_Law_9 kd_56 (by decide) (by decide) rfl (fun _ => by decide +kernel) (by decide) (D_Law_reset 1 rfl) ?_
  refine j_iconst (v := 0) (D_Law_reset 2 rfl) rfl ?_
  refine j_callS (As := [rf X 57, vi 0]) (kk := 2) rfl lk_Law_32 sokfill (by decide) (by decide) rfl rfl (Nat.le_of_ble_eq_true rfl) (c_fillG kd_57 (by decide) (by decide) (wr_lit rfl)) (D_Law_reset 3 rfl) (fun w a2 G2 q => ?_)
  obtain ⟨rfl, rfl, rfl⟩ := q
  refine j_aloadn (k := 0) (D_Law_reset 4 rfl) rfl rfl ?_
  refine j_getR (t := 58) rfl fa_Law_15 kd_56 (by decide) (by decide) rfl (fun _ => by decide +kernel) (by decide) (D_Law_reset 5 rfl) ?_
  refine j_iconst (v := 0) (D_Law_reset 6 rfl) rfl ?_
  refine j_callS (As := [rf X 58, vi 0]) (kk := 2) rfl lk_Law_32 sokfill (by decide) (by decide) rfl rfl (Nat.le_of_ble_eq_true rfl) (c_fillG kd_58 (by decide) (by decide) (wr_lit rfl)) (D_Law_reset 7 rfl) (fun w a2 G2 q => ?_)
  obtain ⟨rfl, rfl, rfl⟩ := q
  refine j_aloadn (k := 0) (D_Law_reset 8 rfl) rfl rfl ?_
  refine j_getR (t := 59) rfl fa_Law_18 kd_56 (by decide) (by decide) rfl (fun _ => by decide +kernel) (by decide) (D_Law_reset 9 rfl) ?_
  refine j_iconst (v := 0) (D_Law_reset 10 rfl) rfl ?_
  refine j_callS (As := [rf X 59, vi 0]) (kk := 2) rfl lk_Law_32 sokfill (by decide) (by decide) rfl rfl (Nat.le_of_ble_eq_true rfl) (c_fillG kd_59 (by decide) (by decide) (wr_lit rfl)) (D_Law_reset 11 rfl) (fun w a2 G2 q => ?_)
  obtain ⟨rfl, rfl, rfl⟩ := q
  refine j_aloadn (k := 0) (D_Law_reset 12 rfl) rfl rfl ?_
  refine j_getR (t := 60) rfl fa_Law_21 kd_56 (by decide) (by decide) rfl (fun _ => by decide +kernel) (by decide) (D_Law_reset 13 rfl) ?_
  refine j_iconst (v := 0) (D_Law_reset 14 rfl) rfl ?_
  refine j_callS (As := [rf X 60, vi 0]) (kk := 2) rfl lk_Law_32 sokfill (by decide) (by decide) rfl rfl (Nat.le_of_ble_eq_true rfl) (c_fillG kd_60 (by decide) (by decide) (wr_lit rfl)) (D_Law_reset 15 rfl) (fun w a2 G2 q => ?_)
  obtain ⟨rfl, rfl, rfl⟩ := q
  refine j_aloadn (k := 0) (D_Law_reset 16 rfl) rfl rfl ?_
  refine j_iconst (v := 1) (D_Law_reset 17 rfl) rfl ?_
  refine j_putI rfl fa_Law_38 kd_56 (by decide) (by decide) rfl (D_Law_reset 18 rfl) ?_
  refine j_aloadn (k := 0) (D_Law_reset 19 rfl) rfl rfl ?_
  refine j_iconst (v := 3) (D_Law_reset 20 rfl) rfl ?_
  refine j_putI rfl fa_Law_42 kd_56 (by decide) (by decide) rfl (D_Law_reset 21 rfl) ?_
  refine j_aloadn (k := 0) (D_Law_reset 22 rfl) rfl rfl ?_
  refine j_sipush (v := 9999) (D_Law_reset 23 rfl) rfl ?_
  refine j_putI rfl fa_Law_45 kd_56 (by decide) (by decide) rfl (D_Law_reset 24 rfl) ?_
  refine j_aloadn (k := 0) (D_Law_reset 25 rfl) rfl rfl ?_
  refine j_sipush (v := 9999) (D_Law_reset 26 rfl) rfl ?_
  refine j_putI rfl fa_Law_48 kd_56 (by decide) (by decide) rfl (D_Law_reset 27 rfl) ?_
  refine j_aloadn (k := 0) (D_Law_reset 28 rfl) rfl rfl ?_
  refine j_iconst (v := 0) (D_Law_reset 29 rfl) rfl ?_
  refine j_putI rfl fa_Law_51 kd_56 (by decide) (by decide) rfl (D_Law_reset 30 rfl) ?_
  exact j_vret (D_Law_reset 31 rfl) rfl rfl rfl ⟨rfl, rfl, rfl⟩
def gk_41 : GS := gk_39
set_option maxHeartbeats 4000000 in
set_option maxRecDepth 100000 in
theorem ck_42 {X : XT} : Call X false 7 5 813 M_Law_init [rf X 56] 57 gk_37 (fun v a2 G2 => v = none ∧ a2 = 62 ∧ G2 = gk_41) := by
  refine Call_of_J cw_Law_init (by decide +kernel) (Nat.le_of_ble_eq_true rfl) ?_
  show J X false 7 5 813 M_Law_init _ 57 0 0 0 [(0, rf X 56)] [] gk_37
  refine j_aloadn (k := 0) (D_Law_init 0 rfl) rfl rfl ?_
  refine j_objI rfl lo_Law_3 oi.1 oi.2 (by decide) (by decide) (D_Law_init 1 rfl) ?_
  refine j_aloadn (k := 0) (D_Law_init 2 rfl) rfl rfl ?_
  refine j_iconst (v := 4) (D_Law_init 3 rfl) rfl ?_
  refine j_newI (N := 4) kd_57 aw_I (wr_lit rfl) rfl (by decide) (by decide) (by decide) (D_Law_init 4 rfl) ?_
  refine j_putRF rfl rfl ho_Law fa_Law_9 (by first | exact Or.inl ⟨_, rfl⟩ | exact Or.inr ⟨_, rfl⟩) kd_56 (by decide) (by decide) rfl (by decide) rfl (D_Law_init 5 rfl) ?_
  refine j_aloadn (k := 0) (D_Law_init 6 rfl) rfl rfl ?_
  refine j_iconst (v := 3) (D_Law_init 7 rfl) rfl ?_
  refine j_newI (N := 3) kd_58 aw_I (wr_lit rfl) rfl (by decide) (by decide) (by decide) (D_Law_init 8 rfl) ?_
  refine j_putRF rfl rfl ho_Law fa_Law_15 (by first | exact Or.inl ⟨_, rfl⟩ | exact Or.inr ⟨_, rfl⟩) kd_56 (by decide) (by decide) rfl (by decide) rfl (D_Law_init 9 rfl) ?_
  refine j_aloadn (k := 0) (D_Law_init 10 rfl) rfl rfl ?_
  refine j_iconst (v := 3) (D_Law_init 11 rfl) rfl ?_
  refine j_newI (N := 3) kd_59 aw_I (wr_lit rfl) rfl (by decide) (by decide) (by decide) (D_Law_init 12 rfl) ?_
  refine j_putRF rfl rfl ho_Law fa_Law_18 (by first | exact Or.inl ⟨_, rfl⟩ | exact Or.inr ⟨_, rfl⟩) kd_56 (by decide) (by decide) rfl (by decide) rfl (D_Law_init 13 rfl) ?_
  refine j_aloadn (k := 0) (D_Law_init 14 rfl) rfl rfl ?_
  refine j_iconst (v := 3) (D_Law_init 15 rfl) rfl ?_
  refine j_newI (N := 3) kd_60 aw_I (wr_lit rfl) rfl (by decide) (by decide) (by decide) (D_Law_init 16 rfl) ?_
  refine j_putRF rfl rfl ho_Law fa_Law_21 (by first | exact Or.inl ⟨_, rfl⟩ | exact Or.inr ⟨_, rfl⟩) kd_56 (by decide) (by decide) rfl (by decide) rfl (D_Law_init 17 rfl) ?_
  refine j_aloadn (k := 0) (D_Law_init 18 rfl) rfl rfl ?_
  refine j_sipush (v := 800) (D_Law_init 19 rfl) rfl ?_
  refine j_newI (N := 800) kd_61 aw_I (wr_lit rfl) rfl (by decide) (by decide) (by decide) (D_Law_init 20 rfl) ?_
  refine j_putRF rfl rfl ho_Law fa_Law_26 (by first | exact Or.inl ⟨_, rfl⟩ | exact Or.inr ⟨_, rfl⟩) kd_56 (by decide) (by decide) rfl (by decide) rfl (D_Law_init 21 rfl) ?_
  refine j_aloadn (k := 0) (D_Law_init 22 rfl) rfl rfl ?_
  refine j_callV (As := []) (kk := 0) rfl lk_Law_29 mok_Law_reset kd_56 rfl (by decide) (by decide) (by decide) rfl rfl (Nat.le_of_ble_eq_true rfl) ck_40 (D_Law_init 23 rfl) (fun v a2 G2 q => ?_)
  obtain ⟨rfl, rfl, rfl⟩ := q
  exact j_vret (D_Law_init 24 rfl) rfl rfl rfl ⟨rfl, rfl, rfl⟩
def gk_43 : GS := (sp gk_41 49 (1 : Int).toNat 56)
def gk_44 : GS := (sp (sp (sp (sp (sp gk_43 62 0 63) 62 1 64) 62 2 65) 62 3 66) 62 8 67)
def gk_45 : GS := (si (si (si (si (si (fillG (fillG (fillG (fillG gk_44 63 4 0) 64 3 0) 65 3 0) 66 3 0) 62 4 1) 62 5 3) 62 6 9999) 62 7 9999) 62 9 0)
set_option maxHeartbeats 4000000 in
set_option maxRecDepth 100000 in
theorem ck_46 {X : XT} : Call X false 6 0 0 M_Law_reset [rf X 62] 68 gk_44 (fun v a2 G2 => v = none ∧ a2 = 68 ∧ G2 = gk_45) := by
  refine Call_of_J cw_Law_reset (by decide +kernel) (Nat.le_of_ble_eq_true rfl) ?_
  show J X false 6 0 0 M_Law_reset _ 68 0 0 0 [(0, rf X 62)] [] gk_44
  refine j_aloadn (k := 0) (D_Law_reset 0 rfl) rfl rfl ?_
  refine j_getR (t := 63) rfl fa_Law_9 kd_62 (by decide) (by decide) rfl (fun _ => by decide +kernel) (by decide) (D_Law_reset 1 rfl) ?_
  refine j_iconst (v := 0) (D_Law_reset 2 rfl) rfl ?_
  refine j_callS (As := [rf X 63, vi 0]) (kk := 2) rfl lk_Law_32 sokfill (by decide) (by decide) rfl rfl (Nat.le_of_ble_eq_true rfl) (c_fillG kd_63 (by decide) (by decide) (wr_lit rfl)) (D_Law_reset 3 rfl) (fun w a2 G2 q => ?_)
  obtain ⟨rfl, rfl, rfl⟩ := q
  refine j_aloadn (k := 0) (D_Law_reset 4 rfl) rfl rfl ?_
  refine j_getR (t := 64) rfl fa_Law_15 kd_62 (by decide) (by decide) rfl (fun _ => by decide +kernel) (by decide) (D_Law_reset 5 rfl) ?_
  refine j_iconst (v := 0) (D_Law_reset 6 rfl) rfl ?_
  refine j_callS (As := [rf X 64, vi 0]) (kk := 2) rfl lk_Law_32 sokfill (by decide) (by decide) rfl rfl (Nat.le_of_ble_eq_true rfl) (c_fillG kd_64 (by decide) (by decide) (wr_lit rfl)) (D_Law_reset 7 rfl) (fun w a2 G2 q => ?_)
  obtain ⟨rfl, rfl, rfl⟩ := q
  refine j_aloadn (k := 0) (D_Law_reset 8 rfl) rfl rfl ?_
  refine j_getR (t := 65) rfl fa_Law_18 kd_62 (by decide) (by decide) rfl (fun _ => by decide +kernel) (by decide) (D_Law_reset 9 rfl) ?_
  refine j_iconst (v := 0) (D_Law_reset 10 rfl) rfl ?_
  refine j_callS (As := [rf X 65, vi 0]) (kk := 2) rfl lk_Law_32 sokfill (by decide) (by decide) rfl rfl (Nat.le_of_ble_eq_true rfl) (c_fillG kd_65 (by decide) (by decide) (wr_lit rfl)) (D_Law_reset 11 rfl) (fun w a2 G2 q => ?_)
  obtain ⟨rfl, rfl, rfl⟩ := q
  refine j_aloadn (k := 0) (D_Law_reset 12 rfl) rfl rfl ?_
  refine j_getR (t := 66) rfl fa_Law_21 kd_62 (by decide) (by decide) rfl (fun _ => by decide +kernel) (by decide) (D_Law_reset 13 rfl) ?_
  refine j_iconst (v := 0) (D_Law_reset 14 rfl) rfl ?_
  refine j_callS (As := [rf X 66, vi 0]) (kk := 2) rfl lk_Law_32 sokfill (by decide) (by decide) rfl rfl (Nat.le_of_ble_eq_true rfl) (c_fillG kd_66 (by decide) (by decide) (wr_lit rfl)) (D_Law_reset 15 rfl) (fun w a2 G2 q => ?_)
  obtain ⟨rfl, rfl, rfl⟩ := q
  refine j_aloadn (k := 0) (D_Law_reset 16 rfl) rfl rfl ?_
  refine j_iconst (v := 1) (D_Law_reset 17 rfl) rfl ?_
  refine j_putI rfl fa_Law_38 kd_62 (by decide) (by decide) rfl (D_Law_reset 18 rfl) ?_
  refine j_aloadn (k := 0) (D_Law_reset 19 rfl) rfl rfl ?_
  refine j_iconst (v := 3) (D_Law_reset 20 rfl) rfl ?_
  refine j_putI rfl fa_Law_42 kd_62 (by decide) (by decide) rfl (D_Law_reset 21 rfl) ?_
  refine j_aloadn (k := 0) (D_Law_reset 22 rfl) rfl rfl ?_
  refine j_sipush (v := 9999) (D_Law_reset 23 rfl) rfl ?_
  refine j_putI rfl fa_Law_45 kd_62 (by decide) (by decide) rfl (D_Law_reset 24 rfl) ?_
  refine j_aloadn (k := 0) (D_Law_reset 25 rfl) rfl rfl ?_
  refine j_sipush (v := 9999) (D_Law_reset 26 rfl) rfl ?_
  refine j_putI rfl fa_Law_48 kd_62 (by decide) (by decide) rfl (D_Law_reset 27 rfl) ?_
  refine j_aloadn (k := 0) (D_Law_reset 28 rfl) rfl rfl ?_
  refine j_iconst (v := 0) (D_Law_reset 29 rfl) rfl ?_
  refine j_putI rfl fa_Law_51 kd_62 (by decide) (by decide) rfl (D_Law_reset 30 rfl) ?_
  exact j_vret (D_Law_reset 31 rfl) rfl rfl rfl ⟨rfl, rfl, rfl⟩
def gk_47 : GS := gk_45
set_option maxHeartbeats 4000000 in
set_option maxRecDepth 100000 in
theorem ck_48 {X : XT} : Call X false 7 5 813 M_Law_init [rf X 62] 63 gk_43 (fun v a2 G2 => v = none ∧ a2 = 68 ∧ G2 = gk_47) := by
  refine Call_of_J cw_Law_init (by decide +kernel) (Nat.le_of_ble_eq_true rfl) ?_
  show J X false 7 5 813 M_Law_init _ 63 0 0 0 [(0, rf X 62)] [] gk_43
  refine j_aloadn (k := 0) (D_Law_init 0 rfl) rfl rfl ?_
  refine j_objI rfl lo_Law_3 oi.1 oi.2 (by decide) (by decide) (D_Law_init 1 rfl) ?_
  refine j_aloadn (k := 0) (D_Law_init 2 rfl) rfl rfl ?_
  refine j_iconst (v := 4) (D_Law_init 3 rfl) rfl ?_
  refine j_newI (N := 4) kd_63 aw_I (wr_lit rfl) rfl (by decide) (by decide) (by decide) (D_Law_init 4 rfl) ?_
  refine j_putRF rfl rfl ho_Law fa_Law_9 (by first | exact Or.inl ⟨_, rfl⟩ | exact Or.inr ⟨_, rfl⟩) kd_62 (by decide) (by decide) rfl (by decide) rfl (D_Law_init 5 rfl) ?_
  refine j_aloadn (k := 0) (D_Law_init 6 rfl) rfl rfl ?_
  refine j_iconst (v := 3) (D_Law_init 7 rfl) rfl ?_
  refine j_newI (N := 3) kd_64 aw_I (wr_lit rfl) rfl (by decide) (by decide) (by decide) (D_Law_init 8 rfl) ?_
  refine j_putRF rfl rfl ho_Law fa_Law_15 (by first | exact Or.inl ⟨_, rfl⟩ | exact Or.inr ⟨_, rfl⟩) kd_62 (by decide) (by decide) rfl (by decide) rfl (D_Law_init 9 rfl) ?_
  refine j_aloadn (k := 0) (D_Law_init 10 rfl) rfl rfl ?_
  refine j_iconst (v := 3) (D_Law_init 11 rfl) rfl ?_
  refine j_newI (N := 3) kd_65 aw_I (wr_lit rfl) rfl (by decide) (by decide) (by decide) (D_Law_init 12 rfl) ?_
  refine j_putRF rfl rfl ho_Law fa_Law_18 (by first | exact Or.inl ⟨_, rfl⟩ | exact Or.inr ⟨_, rfl⟩) kd_62 (by decide) (by decide) rfl (by decide) rfl (D_Law_init 13 rfl) ?_
  refine j_aloadn (k := 0) (D_Law_init 14 rfl) rfl rfl ?_
  refine j_iconst (v := 3) (D_Law_init 15 rfl) rfl ?_
  refine j_newI (N := 3) kd_66 aw_I (wr_lit rfl) rfl (by decide) (by decide) (by decide) (D_Law_init 16 rfl) ?_
  refine j_putRF rfl rfl ho_Law fa_Law_21 (by first | exact Or.inl ⟨_, rfl⟩ | exact Or.inr ⟨_, rfl⟩) kd_62 (by decide) (by decide) rfl (by decide) rfl (D_Law_init 17 rfl) ?_
  refine j_aloadn (k := 0) (D_Law_init 18 rfl) rfl rfl ?_
  refine j_sipush (v := 800) (D_Law_init 19 rfl) rfl ?_
  refine j_newI (N := 800) kd_67 aw_I (wr_lit rfl) rfl (by decide) (by decide) (by decide) (D_Law_init 20 rfl) ?_
  refine j_putRF rfl rfl ho_Law fa_Law_26 (by first | exact Or.inl ⟨_, rfl⟩ | exact Or.inr ⟨_, rfl⟩) kd_62 (by decide) (by decide) rfl (by decide) rfl (D_Law_init 21 rfl) ?_
  refine j_aloadn (k := 0) (D_Law_init 22 rfl) rfl rfl ?_
  refine j_callV (As := []) (kk := 0) rfl lk_Law_29 mok_Law_reset kd_62 rfl (by decide) (by decide) (by decide) rfl rfl (Nat.le_of_ble_eq_true rfl) ck_46 (D_Law_init 23 rfl) (fun v a2 G2 q => ?_)
  obtain ⟨rfl, rfl, rfl⟩ := q
  exact j_vret (D_Law_init 24 rfl) rfl rfl rfl ⟨rfl, rfl, rfl⟩
def gk_49 : GS := (sp gk_47 49 (2 : Int).toNat 62)
def gk_50 : GS := (sp (sp (sp (sp (sp gk_49 68 0 69) 68 1 70) 68 2 71) 68 3 72) 68 8 73)
def gk_51 : GS := (si (si (si (si (si (fillG (fillG (fillG (fillG gk_50 69 4 0) 70 3 0) 71 3 0) 72 3 0) 68 4 1) 68 5 3) 68 6 9999) 68 7 9999) 68 9 0)
set_option maxHeartbeats 4000000 in
set_option maxRecDepth 100000 in
theorem ck_52 {X : XT} : Call X false 6 0 0 M_Law_reset [rf X 68] 74 gk_50 (fun v a2 G2 => v = none ∧ a2 = 74 ∧ G2 = gk_51) := by
  refine Call_of_J cw_Law_reset (by decide +kernel) (Nat.le_of_ble_eq_true rfl) ?_
  show J X false 6 0 0 M_Law_reset _ 74 0 0 0 [(0, rf X 68)] [] gk_50
  refine j_aloadn (k := 0) (D_Law_reset 0 rfl) rfl rfl ?_
  refine j_getR (t := 69) rfl fa_Law_9 kd_68 (by decide) (by decide) rfl (fun _ => by decide +kernel) (by decide) (D_Law_reset 1 rfl) ?_
  refine j_iconst (v := 0) (D_Law_reset 2 rfl) rfl ?_
  refine j_callS (As := [rf X 69, vi 0]) (kk := 2) rfl lk_Law_32 sokfill (by decide) (by decide) rfl rfl (Nat.le_of_ble_eq_true rfl) (c_fillG kd_69 (by decide) (by decide) (wr_lit rfl)) (D_Law_reset 3 rfl) (fun w a2 G2 q => ?_)
  obtain ⟨rfl, rfl, rfl⟩ := q
  refine j_aloadn (k := 0) (D_Law_reset 4 rfl) rfl rfl ?_
  refine j_getR (t := 70) rfl fa_Law_15 kd_68 (by decide) (by decide) rfl (fun _ => by decide +kernel) (by decide) (D_Law_reset 5 rfl) ?_
  refine j_iconst (v := 0) (D_Law_reset 6 rfl) rfl ?_
  refine j_callS (As := [rf X 70, vi 0]) (kk := 2) rfl lk_Law_32 sokfill (by decide) (by decide) rfl rfl (Nat.le_of_ble_eq_true rfl) (c_fillG kd_70 (by decide) (by decide) (wr_lit rfl)) (D_Law_reset 7 rfl) (fun w a2 G2 q => ?_)
  obtain ⟨rfl, rfl, rfl⟩ := q
  refine j_aloadn (k := 0) (D_Law_reset 8 rfl) rfl rfl ?_
  refine j_getR (t := 71) rfl fa_Law_18 kd_68 (by decide) (by decide) rfl (fun _ => by decide +kernel) (by decide) (D_Law_reset 9 rfl) ?_
  refine j_iconst (v := 0) (D_Law_reset 10 rfl) rfl ?_
  refine j_callS (As := [rf X 71, vi 0]) (kk := 2) rfl lk_Law_32 sokfill (by decide) (by decide) rfl rfl (Nat.le_of_ble_eq_true rfl) (c_fillG kd_71 (by decide) (by decide) (wr_lit rfl)) (D_Law_reset 11 rfl) (fun w a2 G2 q => ?_)
  obtain ⟨rfl, rfl, rfl⟩ := q
  refine j_aloadn (k := 0) (D_Law_reset 12 rfl) rfl rfl ?_
  refine j_getR (t := 72) rfl fa_Law_21 kd_68 (by decide) (by decide) rfl (fun _ => by decide +kernel) (by decide) (D_Law_reset 13 rfl) ?_
  refine j_iconst (v := 0) (D_Law_reset 14 rfl) rfl ?_
  refine j_callS (As := [rf X 72, vi 0]) (kk := 2) rfl lk_Law_32 sokfill (by decide) (by decide) rfl rfl (Nat.le_of_ble_eq_true rfl) (c_fillG kd_72 (by decide) (by decide) (wr_lit rfl)) (D_Law_reset 15 rfl) (fun w a2 G2 q => ?_)
  obtain ⟨rfl, rfl, rfl⟩ := q
  refine j_aloadn (k := 0) (D_Law_reset 16 rfl) rfl rfl ?_
  refine j_iconst (v := 1) (D_Law_reset 17 rfl) rfl ?_
  refine j_putI rfl fa_Law_38 kd_68 (by decide) (by decide) rfl (D_Law_reset 18 rfl) ?_
  refine j_aloadn (k := 0) (D_Law_reset 19 rfl) rfl rfl ?_
  refine j_iconst (v := 3) (D_Law_reset 20 rfl) rfl ?_
  refine j_putI rfl fa_Law_42 kd_68 (by decide) (by decide) rfl (D_Law_reset 21 rfl) ?_
  refine j_aloadn (k := 0) (D_Law_reset 22 rfl) rfl rfl ?_
  refine j_sipush (v := 9999) (D_Law_reset 23 rfl) rfl ?_
  refine j_putI rfl fa_Law_45 kd_68 (by decide) (by decide) rfl (D_Law_reset 24 rfl) ?_
  refine j_aloadn (k := 0) (D_Law_reset 25 rfl) rfl rfl ?_
  refine j_sipush (v := 9999) (D_Law_reset 26 rfl) rfl ?_
  refine j_putI rfl fa_Law_48 kd_68 (by decide) (by decide) rfl (D_Law_reset 27 rfl) ?_
  refine j_aloadn (k := 0) (D_Law_reset 28 rfl) rfl rfl ?_
  refine j_iconst (v := 0) (D_Law_reset 29 rfl) rfl ?_
  refine j_putI rfl fa_Law_51 kd_68 (by decide) (by decide) rfl (D_Law_reset 30 rfl) ?_
  exact j_vret (D_Law_reset 31 rfl) rfl rfl rfl ⟨rfl, rfl, rfl⟩
def gk_53 : GS := gk_51
set_option maxHeartbeats 4000000 in
set_option maxRecDepth 100000 in
theorem ck_54 {X : XT} : Call X false 7 5 813 M_Law_init [rf X 68] 69 gk_49 (fun v a2 G2 => v = none ∧ a2 = 74 ∧ G2 = gk_53) := by
  refine Call_of_J cw_Law_init (by decide +kernel) (Nat.le_of_ble_eq_true rfl) ?_
  show J X false 7 5 813 M_Law_init _ 69 0 0 0 [(0, rf X 68)] [] gk_49
  refine j_aloadn (k := 0) (D_Law_init 0 rfl) rfl rfl ?_
  refine j_objI rfl lo_Law_3 oi.1 oi.2 (by decide) (by decide) (D_Law_init 1 rfl) ?_
  refine j_aloadn (k := 0) (D_Law_init 2 rfl) rfl rfl ?_
  refine j_iconst (v := 4) (D_Law_init 3 rfl) rfl ?_
  refine j_newI (N := 4) kd_69 aw_I (wr_lit rfl) rfl (by decide) (by decide) (by decide) (D_Law_init 4 rfl) ?_
  refine j_putRF rfl rfl ho_Law fa_Law_9 (by first | exact Or.inl ⟨_, rfl⟩ | exact Or.inr ⟨_, rfl⟩) kd_68 (by decide) (by decide) rfl (by decide) rfl (D_Law_init 5 rfl) ?_
  refine j_aloadn (k := 0) (D_Law_init 6 rfl) rfl rfl ?_
  refine j_iconst (v := 3) (D_Law_init 7 rfl) rfl ?_
  refine j_newI (N := 3) kd_70 aw_I (wr_lit rfl) rfl (by decide) (by decide) (by decide) (D_Law_init 8 rfl) ?_
  refine j_putRF rfl rfl ho_Law fa_Law_15 (by first | exact Or.inl ⟨_, rfl⟩ | exact Or.inr ⟨_, rfl⟩) kd_68 (by decide) (by decide) rfl (by decide) rfl (D_Law_init 9 rfl) ?_
  refine j_aloadn (k := 0) (D_Law_init 10 rfl) rfl rfl ?_
  refine j_iconst (v := 3) (D_Law_init 11 rfl) rfl ?_
  refine j_newI (N := 3) kd_71 aw_I (wr_lit rfl) rfl (by decide) (by decide) (by decide) (D_Law_init 12 rfl) ?_
  refine j_putRF rfl rfl ho_Law fa_Law_18 (by first | exact Or.inl ⟨_, rfl⟩ | exact Or.inr ⟨_, rfl⟩) kd_68 (by decide) (by decide) rfl (by decide) rfl (D_Law_init 13 rfl) ?_
  refine j_aloadn (k := 0) (D_Law_init 14 rfl) rfl rfl ?_
  refine j_iconst (v := 3) (D_Law_init 15 rfl) rfl ?_
  refine j_newI (N := 3) kd_72 aw_I (wr_lit rfl) rfl (by decide) (by decide) (by decide) (D_Law_init 16 rfl) ?_
  refine j_putRF rfl rfl ho_Law fa_Law_21 (by first | exact Or.inl ⟨_, rfl⟩ | exact Or.inr ⟨_, rfl⟩) kd_68 (by decide) (by decide) rfl (by decide) rfl (D_Law_init 17 rfl) ?_
  refine j_aloadn (k := 0) (D_Law_init 18 rfl) rfl rfl ?_
  refine j_sipush (v := 800) (D_Law_init 19 rfl) rfl ?_
  refine j_newI (N := 800) kd_73 aw_I (wr_lit rfl) rfl (by decide) (by decide) (by decide) (D_Law_init 20 rfl) ?_
  refine j_putRF rfl rfl ho_Law fa_Law_26 (by first | exact Or.inl ⟨_, rfl⟩ | exact Or.inr ⟨_, rfl⟩) kd_68 (by decide) (by decide) rfl (by decide) rfl (D_Law_init 21 rfl) ?_
  refine j_aloadn (k := 0) (D_Law_init 22 rfl) rfl rfl ?_
  refine j_callV (As := []) (kk := 0) rfl lk_Law_29 mok_Law_reset kd_68 rfl (by decide) (by decide) (by decide) rfl rfl (Nat.le_of_ble_eq_true rfl) ck_52 (D_Law_init 23 rfl) (fun v a2 G2 q => ?_)
  obtain ⟨rfl, rfl, rfl⟩ := q
  exact j_vret (D_Law_init 24 rfl) rfl rfl rfl ⟨rfl, rfl, rfl⟩
def gk_55 : GS := (si (sp (sp gk_53 49 (3 : Int).toNat 68) 0 11 74) 0 12 1)
def gk_56 : GS := (sp (sp (sp (sp (sp gk_55 75 0 76) 75 1 77) 75 2 78) 75 3 79) 75 8 80)
def gk_57 : GS := (si (si (si (si (si (fillG (fillG (fillG (fillG gk_56 76 4 0) 77 3 0) 78 3 0) 79 3 0) 75 4 1) 75 5 3) 75 6 9999) 75 7 9999) 75 9 0)
set_option maxHeartbeats 4000000 in
set_option maxRecDepth 100000 in
theorem ck_58 {X : XT} : Call X false 6 0 0 M_Law_reset [rf X 75] 81 gk_56 (fun v a2 G2 => v = none ∧ a2 = 81 ∧ G2 = gk_57) := by
  refine Call_of_J cw_Law_reset (by decide +kernel) (Nat.le_of_ble_eq_true rfl) ?_
  show J X false 6 0 0 M_Law_reset _ 81 0 0 0 [(0, rf X 75)] [] gk_56
  refine j_aloadn (k := 0) (D_Law_reset 0 rfl) rfl rfl ?_
  refine j_getR (t := 76) rfl fa_Law_9 kd_75 (by decide) (by decide) rfl (fun _ => by decide +kernel) (by decide) (D_Law_reset 1 rfl) ?_
  refine j_iconst (v := 0) (D_Law_reset 2 rfl) rfl ?_
  refine j_callS (As := [rf X 76, vi 0]) (kk := 2) rfl lk_Law_32 sokfill (by decide) (by decide) rfl rfl (Nat.le_of_ble_eq_true rfl) (c_fillG kd_76 (by decide) (by decide) (wr_lit rfl)) (D_Law_reset 3 rfl) (fun w a2 G2 q => ?_)
  obtain ⟨rfl, rfl, rfl⟩ := q
  refine j_aloadn (k := 0) (D_Law_reset 4 rfl) rfl rfl ?_
  refine j_getR (t := 77) rfl fa_Law_15 kd_75 (by decide) (by decide) rfl (fun _ => by decide +kernel) (by decide) (D_Law_reset 5 rfl) ?_
  refine j_iconst (v := 0) (D_Law_reset 6 rfl) rfl ?_
  refine j_callS (As := [rf X 77, vi 0]) (kk := 2) rfl lk_Law_32 sokfill (by decide) (by decide) rfl rfl (Nat.le_of_ble_eq_true rfl) (c_fillG kd_77 (by decide) (by decide) (wr_lit rfl)) (D_Law_reset 7 rfl) (fun w a2 G2 q => ?_)
  obtain ⟨rfl, rfl, rfl⟩ := q
  refine j_aloadn (k := 0) (D_Law_reset 8 rfl) rfl rfl ?_
  refine j_getR (t := 78) rfl fa_Law_18 kd_75 (by decide) (by decide) rfl (fun _ => by decide +kernel) (by decide) (D_Law_reset 9 rfl) ?_
  refine j_iconst (v := 0) (D_Law_reset 10 rfl) rfl ?_
  refine j_callS (As := [rf X 78, vi 0]) (kk := 2) rfl lk_Law_32 sokfill (by decide) (by decide) rfl rfl (Nat.le_of_ble_eq_true rfl) (c_fillG kd_78 (by decide) (by decide) (wr_lit rfl)) (D_Law_reset 11 rfl) (fun w a2 G2 q => ?_)
  obtain ⟨rfl, rfl, rfl⟩ := q
  refine j_aloadn (k := 0) (D_Law_reset 12 rfl) rfl rfl ?_
  refine j_getR (t := 79) rfl fa_Law_21 kd_75 (by decide) (by decide) rfl (fun _ => by decide +kernel) (by decide) (D_Law_reset 13 rfl) ?_
  refine j_iconst (v := 0) (D_Law_reset 14 rfl) rfl ?_
  refine j_callS (As := [rf X 79, vi 0]) (kk := 2) rfl lk_Law_32 sokfill (by decide) (by decide) rfl rfl (Nat.le_of_ble_eq_true rfl) (c_fillG kd_79 (by decide) (by decide) (wr_lit rfl)) (D_Law_reset 15 rfl) (fun w a2 G2 q => ?_)
  obtain ⟨rfl, rfl, rfl⟩ := q
  refine j_aloadn (k := 0) (D_Law_reset 16 rfl) rfl rfl ?_
  refine j_iconst (v := 1) (D_Law_reset 17 rfl) rfl ?_
  refine j_putI rfl fa_Law_38 kd_75 (by decide) (by decide) rfl (D_Law_reset 18 rfl) ?_
  refine j_aloadn (k := 0) (D_Law_reset 19 rfl) rfl rfl ?_
  refine j_iconst (v := 3) (D_Law_reset 20 rfl) rfl ?_
  refine j_putI rfl fa_Law_42 kd_75 (by decide) (by decide) rfl (D_Law_reset 21 rfl) ?_
  refine j_aloadn (k := 0) (D_Law_reset 22 rfl) rfl rfl ?_
  refine j_sipush (v := 9999) (D_Law_reset 23 rfl) rfl ?_
  refine j_putI rfl fa_Law_45 kd_75 (by decide) (by decide) rfl (D_Law_reset 24 rfl) ?_
  refine j_aloadn (k := 0) (D_Law_reset 25 rfl) rfl rfl ?_
  refine j_sipush (v := 9999) (D_Law_reset 26 rfl) rfl ?_
  refine j_putI rfl fa_Law_48 kd_75 (by decide) (by decide) rfl (D_Law_reset 27 rfl) ?_
  refine j_aloadn (k := 0) (D_Law_reset 28 rfl) rfl rfl ?_
  refine j_iconst (v := 0) (D_Law_reset 29 rfl) rfl ?_
  refine j_putI rfl fa_Law_51 kd_75 (by decide) (by decide) rfl (D_Law_reset 30 rfl) ?_
  exact j_vret (D_Law_reset 31 rfl) rfl rfl rfl ⟨rfl, rfl, rfl⟩
def gk_59 : GS := gk_57
set_option maxHeartbeats 4000000 in
set_option maxRecDepth 100000 in
theorem ck_60 {X : XT} : Call X false 7 5 813 M_Law_init [rf X 75] 76 gk_55 (fun v a2 G2 => v = none ∧ a2 = 81 ∧ G2 = gk_59) := by
  refine Call_of_J cw_Law_init (by decide +kernel) (Nat.le_of_ble_eq_true rfl) ?_
  show J X false 7 5 813 M_Law_init _ 76 0 0 0 [(0, rf X 75)] [] gk_55
  refine j_aloadn (k := 0) (D_Law_init 0 rfl) rfl rfl ?_
  refine j_objI rfl lo_Law_3 oi.1 oi.2 (by decide) (by decide) (D_Law_init 1 rfl) ?_
  refine j_aloadn (k := 0) (D_Law_init 2 rfl) rfl rfl ?_
  refine j_iconst (v := 4) (D_Law_init 3 rfl) rfl ?_
  refine j_newI (N := 4) kd_76 aw_I (wr_lit rfl) rfl (by decide) (by decide) (by decide) (D_Law_init 4 rfl) ?_
  refine j_putRF rfl rfl ho_Law fa_Law_9 (by first | exact Or.inl ⟨_, rfl⟩ | exact Or.inr ⟨_, rfl⟩) kd_75 (by decide) (by decide) rfl (by decide) rfl (D_Law_init 5 rfl) ?_
  refine j_aloadn (k := 0) (D_Law_init 6 rfl) rfl rfl ?_
  refine j_iconst (v := 3) (D_Law_init 7 rfl) rfl ?_
  refine j_newI (N := 3) kd_77 aw_I (wr_lit rfl) rfl (by decide) (by decide) (by decide) (D_Law_init 8 rfl) ?_
  refine j_putRF rfl rfl ho_Law fa_Law_15 (by first | exact Or.inl ⟨_, rfl⟩ | exact Or.inr ⟨_, rfl⟩) kd_75 (by decide) (by decide) rfl (by decide) rfl (D_Law_init 9 rfl) ?_
  refine j_aloadn (k := 0) (D_Law_init 10 rfl) rfl rfl ?_
  refine j_iconst (v := 3) (D_Law_init 11 rfl) rfl ?_
  refine j_newI (N := 3) kd_78 aw_I (wr_lit rfl) rfl (by decide) (by decide) (by decide) (D_Law_init 12 rfl) ?_
  refine j_putRF rfl rfl ho_Law fa_Law_18 (by first | exact Or.inl ⟨_, rfl⟩ | exact Or.inr ⟨_, rfl⟩) kd_75 (by decide) (by decide) rfl (by decide) rfl (D_Law_init 13 rfl) ?_
  refine j_aloadn (k := 0) (D_Law_init 14 rfl) rfl rfl ?_
  refine j_iconst (v := 3) (D_Law_init 15 rfl) rfl ?_
  refine j_newI (N := 3) kd_79 aw_I (wr_lit rfl) rfl (by decide) (by decide) (by decide) (D_Law_init 16 rfl) ?_
  refine j_putRF rfl rfl ho_Law fa_Law_21 (by first | exact Or.inl ⟨_, rfl⟩ | exact Or.inr ⟨_, rfl⟩) kd_75 (by decide) (by decide) rfl (by decide) rfl (D_Law_init 17 rfl) ?_
  refine j_aloadn (k := 0) (D_Law_init 18 rfl) rfl rfl ?_
  refine j_sipush (v := 800) (D_Law_init 19 rfl) rfl ?_
  refine j_newI (N := 800) kd_80 aw_I (wr_lit rfl) rfl (by decide) (by decide) (by decide) (D_Law_init 20 rfl) ?_
  refine j_putRF rfl rfl ho_Law fa_Law_26 (by first | exact Or.inl ⟨_, rfl⟩ | exact Or.inr ⟨_, rfl⟩) kd_75 (by decide) (by decide) rfl (by decide) rfl (D_Law_init 21 rfl) ?_
  refine j_aloadn (k := 0) (D_Law_init 22 rfl) rfl rfl ?_
  refine j_callV (As := []) (kk := 0) rfl lk_Law_29 mok_Law_reset kd_75 rfl (by decide) (by decide) (by decide) rfl rfl (Nat.le_of_ble_eq_true rfl) ck_58 (D_Law_init 23 rfl) (fun v a2 G2 q => ?_)
  obtain ⟨rfl, rfl, rfl⟩ := q
  exact j_vret (D_Law_init 24 rfl) rfl rfl rfl ⟨rfl, rfl, rfl⟩
def gk_61 : GS := (si (sp gk_59 0 13 75) 0 14 0)
def tb_Hall_init : List (Nat × Instr × Nat) := [(0, .aload_n 0, 1), (1, .invokespecial 3, 3), (4, .aload_n 0, 1), (5, .new 9, 3), (8, .dup, 1), (9, .invokespecial 11, 3), (12, .putfield 12, 3), (15, .aload_n 0, 1), (16, .new 16, 3), (19, .dup, 1), (20, .invokespecial 18, 3), (23, .putfield 19, 3), (26, .aload_n 0, 1), (27, .new 23, 3), (30, .dup, 1), (31, .invokespecial 25, 3), (34, .putfield 26, 3), (37, .aload_n 0, 1), (38, .new 30, 3), (41, .dup, 1), (42, .aload_n 0, 1), (43, .getfield 26, 3), (46, .invokespecial 32, 3), (49, .putfield 35, 3), (52, .aload_n 0, 1), (53, .new 39, 3), (56, .dup, 1), (57, .invokespecial 41, 3), (60, .putfield 42, 3), (63, .aload_n 0, 1), (64, .new 46, 3), (67, .dup, 1), (68, .aload_n 0, 1), (69, .getfield 26, 3), (72, .aload_n 0, 1), (73, .getfield 42, 3), (76, .invokespecial 48, 3), (79, .putfield 51, 3), (82, .aload_n 0, 1), (83, .new 55, 3), (86, .dup, 1), (87, .aload_n 0, 1), (88, .getfield 12, 3), (91, .invokespecial 57, 3), (94, .putfield 60, 3), (97, .aload_n 0, 1), (98, .new 64, 3), (101, .dup, 1), (102, .invokespecial 66, 3), (105, .putfield 67, 3), (108, .aload_n 0, 1), (109, .new 71, 3), (112, .dup, 1), (113, .invokespecial 73, 3), (116, .putfield 74, 3), (119, .aload_n 0, 1), (120, .new 78, 3), (123, .dup, 1), (124, .invokespecial 80, 3), (127, .putfield 81, 3), (130, .aload_n 0, 1), (131, .iconst 4, 1), (132, .anewarray 85, 3), (135, .putfield 87, 3), (138, .iconst 0, 1), (139, .istore_n 1, 1), (140, .iload_n 1, 1), (141, .iconst 4, 1), (142, .if_icmp .ge 22, 3), (145, .aload_n 0, 1), (146, .getfield 87, 3), (149, .iload_n 1, 1), (150, .new 85, 3), (153, .dup, 1), (154, .invokespecial 91, 3), (157, .aastore, 1), (158, .iinc 1 1, 3), (161, .goto (-21), 3), (164, .aload_n 0, 1), (165, .iconst 4, 1), (166, .newarray .int, 2), (168, .putfield 92, 3), (171, .aload_n 0, 1), (172, .iconst 1, 1), (173, .putfield 96, 3), (176, .aload_n 0, 1), (177, .new 85, 3), (180, .dup, 1), (181, .invokespecial 91, 3), (184, .putfield 100, 3), (187, .aload_n 0, 1), (188, .iconst 0, 1), (189, .putfield 104, 3), (192, .return_, 1)]
theorem D_Hall_init (i : Nat) {pc len : Nat} {ins : Instr} (hi : tb_Hall_init[i]? = some (pc, ins, len)) : decode M_Hall_init.2.1 pc = .ok (ins, len) := dec_of (by decide +kernel) i hi
set_option maxHeartbeats 4000000 in
set_option maxRecDepth 100000 in
theorem ck_62 {X : XT} : Call X false 10 80 11200 M_Hall_init [rf X 0] 1 gz (fun v a2 G2 => v = none ∧ a2 = 81 ∧ G2 = gk_61) := by
  refine Call_of_J cw_Hall_init (by decide +kernel) (Nat.le_of_ble_eq_true rfl) ?_
  show J X false 10 80 11200 M_Hall_init _ 1 0 0 0 [(0, rf X 0)] [] gz
  refine j_aloadn (k := 0) (D_Hall_init 0 rfl) rfl rfl ?_
  refine j_objI rfl lo_Hall_3 oi.1 oi.2 (by decide) (by decide) (D_Hall_init 1 rfl) ?_
  refine j_aloadn (k := 0) (D_Hall_init 2 rfl) rfl rfl ?_
  refine j_new rfl ok_People df_People cl_Hall_9 iw_People.1 iw_People.2 kd_1 (by decide) (by decide) (D_Hall_init 3 rfl) ?_
  refine j_dup (D_Hall_init 4 rfl) rfl ?_
  refine j_callIN (As := []) (kk := 0) (host := "InquestHall") rfl (by decide) iok_People_init (by decide) (by decide) rfl rfl (Nat.le_of_ble_eq_true rfl) ck_3 (D_Hall_init 5 rfl) (fun v a2 G2 q => ?_)
  obtain ⟨rfl, rfl, rfl⟩ := q
  refine j_putRF rfl rfl ho_Hall fa_Hall_12 (by first | exact Or.inl ⟨_, rfl⟩ | exact Or.inr ⟨_, rfl⟩) kd_0 (by decide) (by decide) rfl (by decide) rfl (D_Hall_init 6 rfl) ?_
  refine j_aloadn (k := 0) (D_Hall_init 7 rfl) rfl rfl ?_
  refine j_new rfl ok_Lands df_Lands cl_Hall_16 iw_Lands.1 iw_Lands.2 kd_9 (by decide) (by decide) (D_Hall_init 8 rfl) ?_
  refine j_dup (D_Hall_init 9 rfl) rfl ?_
  refine j_callIN (As := []) (kk := 0) (host := "InquestHall") rfl (by decide) iok_Lands_init (by decide) (by decide) rfl rfl (Nat.le_of_ble_eq_true rfl) ck_6 (D_Hall_init 10 rfl) (fun v a2 G2 q => ?_)
  obtain ⟨rfl, rfl, rfl⟩ := q
  refine j_putRF rfl rfl ho_Hall fa_Hall_19 (by first | exact Or.inl ⟨_, rfl⟩ | exact Or.inr ⟨_, rfl⟩) kd_0 (by decide) (by decide) rfl (by decide) rfl (D_Hall_init 11 rfl) ?_
  refine j_aloadn (k := 0) (D_Hall_init 12 rfl) rfl rfl ?_
  refine j_new rfl ok_Text df_Text cl_Hall_23 iw_Text.1 iw_Text.2 kd_15 (by decide) (by decide) (D_Hall_init 13 rfl) ?_
  refine j_dup (D_Hall_init 14 rfl) rfl ?_
  refine j_callI (As := []) (kk := 0) rfl lk_Hall_25 iok_Text_init (by decide) (by decide) rfl rfl (Nat.le_of_ble_eq_true rfl) ck_9 (D_Hall_init 15 rfl) (fun v a2 G2 q => ?_)
  obtain ⟨rfl, rfl, rfl⟩ := q
  refine j_putRF rfl rfl ho_Hall fa_Hall_26 (by first | exact Or.inl ⟨_, rfl⟩ | exact Or.inr ⟨_, rfl⟩) kd_0 (by decide) (by decide) rfl (by decide) rfl (D_Hall_init 16 rfl) ?_
  refine j_aloadn (k := 0) (D_Hall_init 17 rfl) rfl rfl ?_
  refine j_new rfl ok_LawReader df_LawReader cl_Hall_30 iw_LawReader.1 iw_LawReader.2 kd_21 (by decide) (by decide) (D_Hall_init 18 rfl) ?_
  refine j_dup (D_Hall_init 19 rfl) rfl ?_
  refine j_aloadn (k := 0) (D_Hall_init 20 rfl) rfl rfl ?_
  refine j_getR (t := 15) rfl fa_Hall_26 kd_0 (by decide) (by decide) rfl (fun _ => by decide +kernel) (by decide) (D_Hall_init 21 rfl) ?_
  refine j_callI (As := [rf X 15]) (kk := 1) rfl lk_Hall_32 iok_LawReader_init (by decide) (by decide) rfl rfl (Nat.le_of_ble_eq_true rfl) ck_12 (D_Hall_init 22 rfl) (fun v a2 G2 q => ?_)
  obtain ⟨rfl, rfl, rfl⟩ := q
  refine j_putRF rfl rfl ho_Hall fa_Hall_35 (by first | exact Or.inl ⟨_, rfl⟩ | exact Or.inr ⟨_, rfl⟩) kd_0 (by decide) (by decide) rfl (by decide) rfl (D_Hall_init 23 rfl) ?_
  refine j_aloadn (k := 0) (D_Hall_init 24 rfl) rfl rfl ?_
  refine j_new rfl ok_Remembered df_Remembered cl_Hall_39 iw_Remembered.1 iw_Remembered.2 kd_23 (by decide) (by decide) (D_Hall_init 25 rfl) ?_
  refine j_dup (D_Hall_init 26 rfl) rfl ?_
  refine j_callI (As := []) (kk := 0) rfl lk_Hall_41 iok_Remembered_init (by decide) (by decide) rfl rfl (Nat.le_of_ble_eq_true rfl) ck_15 (D_Hall_init 27 rfl) (fun v a2 G2 q => ?_)
  obtain ⟨rfl, rfl, rfl⟩ := q
  refine j_putRF rfl rfl ho_Hall fa_Hall_42 (by first | exact Or.inl ⟨_, rfl⟩ | exact Or.inr ⟨_, rfl⟩) kd_0 (by decide) (by decide) rfl (by decide) rfl (D_Hall_init 28 rfl) ?_
  refine j_aloadn (k := 0) (D_Hall_init 29 rfl) rfl rfl ?_
  refine j_new rfl ok_MemoryReader df_MemoryReader cl_Hall_46 iw_MemoryReader.1 iw_MemoryReader.2 kd_29 (by decide) (by decide) (D_Hall_init 30 rfl) ?_
  refine j_dup (D_Hall_init 31 rfl) rfl ?_
  refine j_aloadn (k := 0) (D_Hall_init 32 rfl) rfl rfl ?_
  refine j_getR (t := 15) rfl fa_Hall_26 kd_0 (by decide) (by decide) rfl (fun _ => by decide +kernel) (by decide) (D_Hall_init 33 rfl) ?_
  refine j_aloadn (k := 0) (D_Hall_init 34 rfl) rfl rfl ?_
  refine j_getR (t := 23) rfl fa_Hall_42 kd_0 (by decide) (by decide) rfl (fun _ => by decide +kernel) (by decide) (D_Hall_init 35 rfl) ?_
  refine j_callI (As := [rf X 15, rf X 23]) (kk := 2) rfl lk_Hall_48 iok_MemoryReader_init (by decide) (by decide) rfl rfl (Nat.le_of_ble_eq_true rfl) ck_18 (D_Hall_init 36 rfl) (fun v a2 G2 q => ?_)
  obtain ⟨rfl, rfl, rfl⟩ := q
  refine j_putRF rfl rfl ho_Hall fa_Hall_51 (by first | exact Or.inl ⟨_, rfl⟩ | exact Or.inr ⟨_, rfl⟩) kd_0 (by decide) (by decide) rfl (by decide) rfl (D_Hall_init 37 rfl) ?_
  refine j_aloadn (k := 0) (D_Hall_init 38 rfl) rfl rfl ?_
  refine j_new rfl ok_Descent df_Descent cl_Hall_55 iw_Descent.1 iw_Descent.2 kd_30 (by decide) (by decide) (D_Hall_init 39 rfl) ?_
  refine j_dup (D_Hall_init 40 rfl) rfl ?_
  refine j_aloadn (k := 0) (D_Hall_init 41 rfl) rfl rfl ?_
  refine j_getR (t := 1) rfl fa_Hall_12 kd_0 (by decide) (by decide) rfl (fun _ => by decide +kernel) (by decide) (D_Hall_init 42 rfl) ?_
  refine j_callI (As := [rf X 1]) (kk := 1) rfl lk_Hall_57 iok_Descent_init (by decide) (by decide) rfl rfl (Nat.le_of_ble_eq_true rfl) ck_21 (D_Hall_init 43 rfl) (fun v a2 G2 q => ?_)
  obtain ⟨rfl, rfl, rfl⟩ := q
  refine j_putRF rfl rfl ho_Hall fa_Hall_60 (by first | exact Or.inl ⟨_, rfl⟩ | exact Or.inr ⟨_, rfl⟩) kd_0 (by decide) (by decide) rfl (by decide) rfl (D_Hall_init 44 rfl) ?_
  refine j_aloadn (k := 0) (D_Hall_init 45 rfl) rfl rfl ?_
  refine j_new rfl ok_Reckoner df_Reckoner cl_Hall_64 iw_Reckoner.1 iw_Reckoner.2 kd_35 (by decide) (by decide) (D_Hall_init 46 rfl) ?_
  refine j_dup (D_Hall_init 47 rfl) rfl ?_
  refine j_callIN (As := []) (kk := 0) (host := "InquestHall") rfl (by decide) iok_Reckoner_init (by decide) (by decide) rfl rfl (Nat.le_of_ble_eq_true rfl) ck_24 (D_Hall_init 48 rfl) (fun v a2 G2 q => ?_)
  obtain ⟨rfl, rfl, rfl⟩ := q
  refine j_putRF rfl rfl ho_Hall fa_Hall_67 (by first | exact Or.inl ⟨_, rfl⟩ | exact Or.inr ⟨_, rfl⟩) kd_0 (by decide) (by decide) rfl (by decide) rfl (D_Hall_init 49 rfl) ?_
  refine j_aloadn (k := 0) (D_Hall_init 50 rfl) rfl rfl ?_
  refine j_new rfl ok_Seizings df_Seizings cl_Hall_71 iw_Seizings.1 iw_Seizings.2 kd_38 (by decide) (by decide) (D_Hall_init 51 rfl) ?_
  refine j_dup (D_Hall_init 52 rfl) rfl ?_
  refine j_callIN (As := []) (kk := 0) (host := "InquestHall") rfl (by decide) iok_Seizings_init (by decide) (by decide) rfl rfl (Nat.le_of_ble_eq_true rfl) ck_27 (D_Hall_init 53 rfl) (fun v a2 G2 q => ?_)
  obtain ⟨rfl, rfl, rfl⟩ := q
  refine j_putRF rfl rfl ho_Hall fa_Hall_74 (by first | exact Or.inl ⟨_, rfl⟩ | exact Or.inr ⟨_, rfl⟩) kd_0 (by decide) (by decide) rfl (by decide) rfl (D_Hall_init 54 rfl) ?_
  refine j_aloadn (k := 0) (D_Hall_init 55 rfl) rfl rfl ?_
  refine j_new rfl ok_Juries df_Juries cl_Hall_78 iw_Juries.1 iw_Juries.2 kd_45 (by decide) (by decide) (D_Hall_init 56 rfl) ?_
  refine j_dup (D_Hall_init 57 rfl) rfl ?_
  refine j_callI (As := []) (kk := 0) rfl lk_Hall_80 iok_Juries_init (by decide) (by decide) rfl rfl (Nat.le_of_ble_eq_true rfl) ck_30 (D_Hall_init 58 rfl) (fun v a2 G2 q => ?_)
  obtain ⟨rfl, rfl, rfl⟩ := q
  refine j_putRF rfl rfl ho_Hall fa_Hall_81 (by first | exact Or.inl ⟨_, rfl⟩ | exact Or.inr ⟨_, rfl⟩) kd_0 (by decide) (by decide) rfl (by decide) rfl (D_Hall_init 59 rfl) ?_
  refine j_aloadn (k := 0) (D_Hall_init 60 rfl) rfl rfl ?_
  refine j_iconst (v := 4) (D_Hall_init 61 rfl) rfl ?_
  refine j_anew (N := 4) rfl cl_Hall_85 kd_49 (wr_lit rfl) rfl (by decide) (by decide) (by decide) (D_Hall_init 62 rfl) ?_
  refine j_putRF rfl rfl ho_Hall fa_Hall_87 (by first | exact Or.inl ⟨_, rfl⟩ | exact Or.inr ⟨_, rfl⟩) kd_0 (by decide) (by decide) rfl (by decide) rfl (D_Hall_init 63 rfl) ?_
  refine j_iconst (v := 0) (D_Hall_init 64 rfl) rfl ?_
  refine j_istoren (L' := [(1, vi 0), (0, rf X 0)]) (D_Hall_init 65 rfl) rfl (wr_lit rfl) (by decide) rfl ?_
  refine j_iloadn (k := 0) (D_Hall_init 66 rfl) rfl rfl ?_
  refine j_iconst (v := 4) (D_Hall_init 67 rfl) rfl ?_
  refine j_ic_ge (tgt := 164) (D_Hall_init 68 rfl) rfl (wr_lit rfl) (wr_lit rfl) (fun h => absurd h (by decide)) (fun _ => ?_)
  refine j_aloadn (k := 1) (D_Hall_init 69 rfl) rfl rfl ?_
  refine j_getR (t := 49) rfl fa_Hall_87 kd_0 (by decide) (by decide) rfl (fun _ => by decide +kernel) (by decide) (D_Hall_init 70 rfl) ?_
  refine j_iloadn (k := 0) (D_Hall_init 71 rfl) rfl rfl ?_
  refine j_new rfl ok_Law df_Law cl_Hall_85 iw_Law.1 iw_Law.2 kd_50 (by decide) (by decide) (D_Hall_init 72 rfl) ?_
  refine j_dup (D_Hall_init 73 rfl) rfl ?_
  refine j_callI (As := []) (kk := 0) rfl lk_Hall_91 iok_Law_init (by decide) (by decide) rfl rfl (Nat.le_of_ble_eq_true rfl) ck_36 (D_Hall_init 74 rfl) (fun v a2 G2 q => ?_)
  obtain ⟨rfl, rfl, rfl⟩ := q
  refine j_aast (NI := 4) (D_Hall_init 75 rfl) kd_49 (by decide) (wr_lit rfl) rfl (by decide) (by decide) (by decide) (by decide) (Or.inl rfl) ?_
  refine j_iinc (k := 0) (x' := 1) (L' := [(1, vi 1), (0, rf X 0)]) (D_Hall_init 76 rfl) rfl (by decide +kernel) (by decide) rfl ?_
  refine j_goto (tgt := 140) (D_Hall_init 77 rfl) rfl ?_
  refine j_iloadn (k := 0) (D_Hall_init 66 rfl) rfl rfl ?_
  refine j_iconst (v := 4) (D_Hall_init 67 rfl) rfl ?_
  refine j_ic_ge (tgt := 164) (D_Hall_init 68 rfl) rfl (wr_lit rfl) (wr_lit rfl) (fun h => absurd h (by decide)) (fun _ => ?_)
  refine j_aloadn (k := 1) (D_Hall_init 69 rfl) rfl rfl ?_
  refine j_getR (t := 49) rfl fa_Hall_87 kd_0 (by decide) (by decide) rfl (fun _ => by decide +kernel) (by decide) (D_Hall_init 70 rfl) ?_
  refine j_iloadn (k := 0) (D_Hall_init 71 rfl) rfl rfl ?_
  refine j_new rfl ok_Law df_Law cl_Hall_85 iw_Law.1 iw_Law.2 kd_56 (by decide) (by decide) (D_Hall_init 72 rfl) ?_
  refine j_dup (D_Hall_init 73 rfl) rfl ?_
  refine j_callI (As := []) (kk := 0) rfl lk_Hall_91 iok_Law_init (by decide) (by decide) rfl rfl (Nat.le_of_ble_eq_true rfl) ck_42 (D_Hall_init 74 rfl) (fun v a2 G2 q => ?_)
  obtain ⟨rfl, rfl, rfl⟩ := q
  refine j_aast (NI := 4) (D_Hall_init 75 rfl) kd_49 (by decide) (wr_lit rfl) rfl (by decide) (by decide) (by decide) (by decide) (Or.inl rfl) ?_
  refine j_iinc (k := 0) (x' := 2) (L' := [(1, vi 2), (0, rf X 0)]) (D_Hall_init 76 rfl) rfl (by decide +kernel) (by decide) rfl ?_
  refine j_goto (tgt := 140) (D_Hall_init 77 rfl) rfl ?_
  refine j_iloadn (k := 0) (D_Hall_init 66 rfl) rfl rfl ?_
  refine j_iconst (v := 4) (D_Hall_init 67 rfl) rfl ?_
  refine j_ic_ge (tgt := 164) (D_Hall_init 68 rfl) rfl (wr_lit rfl) (wr_lit rfl) (fun h => absurd h (by decide)) (fun _ => ?_)
  refine j_aloadn (k := 1) (D_Hall_init 69 rfl) rfl rfl ?_
  refine j_getR (t := 49) rfl fa_Hall_87 kd_0 (by decide) (by decide) rfl (fun _ => by decide +kernel) (by decide) (D_Hall_init 70 rfl) ?_
  refine j_iloadn (k := 0) (D_Hall_init 71 rfl) rfl rfl ?_
  refine j_new rfl ok_Law df_Law cl_Hall_85 iw_Law.1 iw_Law.2 kd_62 (by decide) (by decide) (D_Hall_init 72 rfl) ?_
  refine j_dup (D_Hall_init 73 rfl) rfl ?_
  refine j_callI (As := []) (kk := 0) rfl lk_Hall_91 iok_Law_init (by decide) (by decide) rfl rfl (Nat.le_of_ble_eq_true rfl) ck_48 (D_Hall_init 74 rfl) (fun v a2 G2 q => ?_)
  obtain ⟨rfl, rfl, rfl⟩ := q
  refine j_aast (NI := 4) (D_Hall_init 75 rfl) kd_49 (by decide) (wr_lit rfl) rfl (by decide) (by decide) (by decide) (by decide) (Or.inl rfl) ?_
  refine j_iinc (k := 0) (x' := 3) (L' := [(1, vi 3), (0, rf X 0)]) (D_Hall_init 76 rfl) rfl (by decide +kernel) (by decide) rfl ?_
  refine j_goto (tgt := 140) (D_Hall_init 77 rfl) rfl ?_
  refine j_iloadn (k := 0) (D_Hall_init 66 rfl) rfl rfl ?_
  refine j_iconst (v := 4) (D_Hall_init 67 rfl) rfl ?_
  refine j_ic_ge (tgt := 164) (D_Hall_init 68 rfl) rfl (wr_lit rfl) (wr_lit rfl) (fun h => absurd h (by decide)) (fun _ => ?_)
  refine j_aloadn (k := 1) (D_Hall_init 69 rfl) rfl rfl ?_
  refine j_getR (t := 49) rfl fa_Hall_87 kd_0 (by decide) (by decide) rfl (fun _ => by decide +kernel) (by decide) (D_Hall_init 70 rfl) ?_
  refine j_iloadn (k := 0) (D_Hall_init 71 rfl) rfl rfl ?_
  refine j_new rfl ok_Law df_Law cl_Hall_85 iw_Law.1 iw_Law.2 kd_68 (by decide) (by decide) (D_Hall_init 72 rfl) ?_
  refine j_dup (D_Hall_init 73 rfl) rfl ?_
  refine j_callI (As := []) (kk := 0) rfl lk_Hall_91 iok_Law_init (by decide) (by decide) rfl rfl (Nat.le_of_ble_eq_true rfl) ck_54 (D_Hall_init 74 rfl) (fun v a2 G2 q => ?_)
  obtain ⟨rfl, rfl, rfl⟩ := q
  refine j_aast (NI := 4) (D_Hall_init 75 rfl) kd_49 (by decide) (wr_lit rfl) rfl (by decide) (by decide) (by decide) (by decide) (Or.inl rfl) ?_
  refine j_iinc (k := 0) (x' := 4) (L' := [(1, vi 4), (0, rf X 0)]) (D_Hall_init 76 rfl) rfl (by decide +kernel) (by decide) rfl ?_
  refine j_goto (tgt := 140) (D_Hall_init 77 rfl) rfl ?_
  refine j_iloadn (k := 0) (D_Hall_init 66 rfl) rfl rfl ?_
  refine j_iconst (v := 4) (D_Hall_init 67 rfl) rfl ?_
  refine j_ic_ge (tgt := 164) (D_Hall_init 68 rfl) rfl (wr_lit rfl) (wr_lit rfl) (fun _ => ?_) (fun h => absurd (by decide) h)
  refine j_aloadn (k := 1) (D_Hall_init 78 rfl) rfl rfl ?_
  refine j_iconst (v := 4) (D_Hall_init 79 rfl) rfl ?_
  refine j_newI (N := 4) kd_74 aw_I (wr_lit rfl) rfl (by decide) (by decide) (by decide) (D_Hall_init 80 rfl) ?_
  refine j_putRF rfl rfl ho_Hall fa_Hall_92 (by first | exact Or.inl ⟨_, rfl⟩ | exact Or.inr ⟨_, rfl⟩) kd_0 (by decide) (by decide) rfl (by decide) rfl (D_Hall_init 81 rfl) ?_
  refine j_aloadn (k := 1) (D_Hall_init 82 rfl) rfl rfl ?_
  refine j_iconst (v := 1) (D_Hall_init 83 rfl) rfl ?_
  refine j_putI rfl fa_Hall_96 kd_0 (by decide) (by decide) rfl (D_Hall_init 84 rfl) ?_
  refine j_aloadn (k := 1) (D_Hall_init 85 rfl) rfl rfl ?_
  refine j_new rfl ok_Law df_Law cl_Hall_85 iw_Law.1 iw_Law.2 kd_75 (by decide) (by decide) (D_Hall_init 86 rfl) ?_
  refine j_dup (D_Hall_init 87 rfl) rfl ?_
  refine j_callI (As := []) (kk := 0) rfl lk_Hall_91 iok_Law_init (by decide) (by decide) rfl rfl (Nat.le_of_ble_eq_true rfl) ck_60 (D_Hall_init 88 rfl) (fun v a2 G2 q => ?_)
  obtain ⟨rfl, rfl, rfl⟩ := q
  refine j_putR rfl fa_Hall_100 kd_0 (by decide) (by decide) rfl (by decide) (Or.inl rfl) (D_Hall_init 89 rfl) ?_
  refine j_aloadn (k := 1) (D_Hall_init 90 rfl) rfl rfl ?_
  refine j_iconst (v := 0) (D_Hall_init 91 rfl) rfl ?_
  refine j_putI rfl fa_Hall_104 kd_0 (by decide) (by decide) rfl (D_Hall_init 92 rfl) ?_
  exact j_vret (D_Hall_init 93 rfl) rfl rfl rfl ⟨rfl, rfl, rfl⟩
