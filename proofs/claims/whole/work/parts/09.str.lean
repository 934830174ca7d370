/-! length() and charAt() of the text constants -/
abbrev M_String_coder : MI := (⟨"java/lang/String", "coder", "()B"⟩, prog_17_method_152_code, 1, (some .byte))
abbrev M_String_length : MI := (⟨"java/lang/String", "length", "()I"⟩, prog_17_method_54_code, 1, (some .int))
abbrev M_String_isLatin1 : MI := (⟨"java/lang/String", "isLatin1", "()Z"⟩, prog_17_method_154_code, 1, (some .boolean))
abbrev M_String_charAt : MI := (⟨"java/lang/String", "charAt", "(I)C"⟩, prog_17_method_56_code, 2, (some .char))
abbrev M_Latin_charAt : MI := (⟨"java/lang/StringLatin1", "charAt", "([BI)C"⟩, prog_18_method_2_code, 2, (some .char))
abbrev M_String_check : MI := (⟨"java/lang/String", "checkIndex", "(II)V"⟩, prog_17_method_155_code, 2, none)
abbrev M_Pre_check : MI := (⟨"jdk/internal/util/Preconditions", "checkIndex", "(IILjava/util/function/BiFunction;)I"⟩, prog_21_method_11_code, 3, (some .int))
def tb_coder : List (Nat × Instr × Nat) := [(0, .getstatic 38, 3), (3, .ifCond .eq 10, 3), (6, .aload_n 0, 1), (7, .getfield 15, 3), (10, .goto 4, 3), (13, .iconst 1, 1), (14, .ireturn, 1)]
def tb_length : List (Nat × Instr × Nat) := [(0, .aload_n 0, 1), (1, .getfield 9, 3), (4, .arraylength, 1), (5, .aload_n 0, 1), (6, .invokevirtual 335, 3), (9, .ishr, 1), (10, .ireturn, 1)]
def tb_isLatin1 : List (Nat × Instr × Nat) := [(0, .getstatic 38, 3), (3, .ifCond .eq 14, 3), (6, .aload_n 0, 1), (7, .getfield 15, 3), (10, .ifCond .ne 7, 3), (13, .iconst 1, 1), (14, .goto 4, 3), (17, .iconst 0, 1), (18, .ireturn, 1)]
def tb_charAt : List (Nat × Instr × Nat) := [(0, .aload_n 0, 1), (1, .invokevirtual 492, 3), (4, .ifCond .eq 12, 3), (7, .aload_n 0, 1), (8, .getfield 9, 3), (11, .iload_n 1, 1), (12, .invokestatic 495, 3), (15, .ireturn, 1)]
def tb_Latin : List (Nat × Instr × Nat) := [(0, .iload_n 1, 1), (1, .aload_n 0, 1), (2, .arraylength, 1), (3, .invokestatic 9, 3), (6, .aload_n 0, 1), (7, .iload_n 1, 1), (8, .baload, 1), (9, .sipush 255, 3), (12, .iand, 1), (13, .i2c, 1), (14, .ireturn, 1)]
def tb_check : List (Nat × Instr × Nat) := [(0, .iload_n 0, 1), (1, .iload_n 1, 1), (2, .getstatic 1053, 3), (5, .invokestatic 1059, 3), (8, .pop, 1), (9, .return_, 1)]
def tb_pre : List (Nat × Instr × Nat) := [(0, .iload_n 0, 1), (1, .ifCond .lt 8, 3), (4, .iload_n 0, 1), (5, .iload_n 1, 1), (6, .if_icmp .lt 10, 3), (16, .iload_n 0, 1), (17, .ireturn, 1)]
theorem D_coder (i : Nat) {pc len : Nat} {ins : Instr} (hi : tb_coder[i]? = some (pc, ins, len)) : decode M_String_coder.2.1 pc = .ok (ins, len) := dec_of (by decide +kernel) i hi
theorem D_length (i : Nat) {pc len : Nat} {ins : Instr} (hi : tb_length[i]? = some (pc, ins, len)) : decode M_String_length.2.1 pc = .ok (ins, len) := dec_of (by decide +kernel) i hi
theorem D_isLatin1 (i : Nat) {pc len : Nat} {ins : Instr} (hi : tb_isLatin1[i]? = some (pc, ins, len)) : decode M_String_isLatin1.2.1 pc = .ok (ins, len) := dec_of (by decide +kernel) i hi
theorem D_charAt (i : Nat) {pc len : Nat} {ins : Instr} (hi : tb_charAt[i]? = some (pc, ins, len)) : decode M_String_charAt.2.1 pc = .ok (ins, len) := dec_of (by decide +kernel) i hi
theorem D_Latin (i : Nat) {pc len : Nat} {ins : Instr} (hi : tb_Latin[i]? = some (pc, ins, len)) : decode M_Latin_charAt.2.1 pc = .ok (ins, len) := dec_of (by decide +kernel) i hi
theorem D_check (i : Nat) {pc len : Nat} {ins : Instr} (hi : tb_check[i]? = some (pc, ins, len)) : decode M_String_check.2.1 pc = .ok (ins, len) := dec_of (by decide +kernel) i hi
theorem D_pre (i : Nat) {pc len : Nat} {ins : Instr} (hi : tb_pre[i]? = some (pc, ins, len)) : decode M_Pre_check.2.1 pc = .ok (ins, len) := dec_of (by decide +kernel) i hi
theorem cw_String_coder : Cond.code M_String_coder.1 M_String_coder.2.1 M_String_coder.2.2.1 M_String_coder.2.2.2 ∈ TS := mTS (List.mem_of_getElem? (i := 251) (by decide +kernel)) (by decide +kernel)
theorem mok_String_coder : MOK M_String_coder 0 := ⟨mTS (List.mem_of_getElem? (i := 249) (by decide +kernel)) (by decide +kernel), mTS (List.mem_of_getElem? (i := 250) (by decide +kernel)) (by decide +kernel), mTS (List.mem_of_getElem? (i := 126) (by decide +kernel)) (by decide +kernel), cw_String_coder, ⟨by decide, by decide, by decide +kernel⟩, by decide +kernel, by decide⟩
theorem cw_String_length : Cond.code M_String_length.1 M_String_length.2.1 M_String_length.2.2.1 M_String_length.2.2.2 ∈ TS := mTS (List.mem_of_getElem? (i := 247) (by decide +kernel)) (by decide +kernel)
theorem mok_String_length : MOK M_String_length 0 := ⟨mTS (List.mem_of_getElem? (i := 245) (by decide +kernel)) (by decide +kernel), mTS (List.mem_of_getElem? (i := 246) (by decide +kernel)) (by decide +kernel), mTS (List.mem_of_getElem? (i := 126) (by decide +kernel)) (by decide +kernel), cw_String_length, ⟨by decide, by decide, by decide +kernel⟩, by decide +kernel, by decide⟩
theorem cw_String_isLatin1 : Cond.code M_String_isLatin1.1 M_String_isLatin1.2.1 M_String_isLatin1.2.2.1 M_String_isLatin1.2.2.2 ∈ TS := mTS (List.mem_of_getElem? (i := 261) (by decide +kernel)) (by decide +kernel)
theorem mok_String_isLatin1 : MOK M_String_isLatin1 0 := ⟨mTS (List.mem_of_getElem? (i := 259) (by decide +kernel)) (by decide +kernel), mTS (List.mem_of_getElem? (i := 260) (by decide +kernel)) (by decide +kernel), mTS (List.mem_of_getElem? (i := 126) (by decide +kernel)) (by decide +kernel), cw_String_isLatin1, ⟨by decide, by decide, by decide +kernel⟩, by decide +kernel, by decide⟩
theorem cw_String_charAt : Cond.code M_String_charAt.1 M_String_charAt.2.1 M_String_charAt.2.2.1 M_String_charAt.2.2.2 ∈ TS := mTS (List.mem_of_getElem? (i := 257) (by decide +kernel)) (by decide +kernel)
theorem mok_String_charAt : MOK M_String_charAt 1 := ⟨mTS (List.mem_of_getElem? (i := 255) (by decide +kernel)) (by decide +kernel), mTS (List.mem_of_getElem? (i := 256) (by decide +kernel)) (by decide +kernel), mTS (List.mem_of_getElem? (i := 126) (by decide +kernel)) (by decide +kernel), cw_String_charAt, ⟨by decide, by decide, by decide +kernel⟩, by decide +kernel, by decide⟩
theorem cw_Latin_charAt : Cond.code M_Latin_charAt.1 M_Latin_charAt.2.1 M_Latin_charAt.2.2.1 M_Latin_charAt.2.2.2 ∈ TS := mTS (List.mem_of_getElem? (i := 264) (by decide +kernel)) (by decide +kernel)
theorem sok_Latin_charAt : SOK M_Latin_charAt 2 := ⟨mTS (List.mem_of_getElem? (i := 263) (by decide +kernel)) (by decide +kernel), mTS (List.mem_of_getElem? (i := 127) (by decide +kernel)) (by decide +kernel), cw_Latin_charAt, ⟨by decide, by decide, by decide +kernel⟩, by decide +kernel, by decide⟩
theorem cw_String_check : Cond.code M_String_check.1 M_String_check.2.1 M_String_check.2.2.1 M_String_check.2.2.2 ∈ TS := mTS (List.mem_of_getElem? (i := 267) (by decide +kernel)) (by decide +kernel)
theorem sok_String_check : SOK M_String_check 2 := ⟨mTS (List.mem_of_getElem? (i := 266) (by decide +kernel)) (by decide +kernel), mTS (List.mem_of_getElem? (i := 126) (by decide +kernel)) (by decide +kernel), cw_String_check, ⟨by decide, by decide, by decide +kernel⟩, by decide +kernel, by decide⟩
theorem cw_Pre_check : Cond.code M_Pre_check.1 M_Pre_check.2.1 M_Pre_check.2.2.1 M_Pre_check.2.2.2 ∈ TS := mTS (List.mem_of_getElem? (i := 272) (by decide +kernel)) (by decide +kernel)
theorem sok_Pre_check : SOK M_Pre_check 3 := ⟨mTS (List.mem_of_getElem? (i := 271) (by decide +kernel)) (by decide +kernel), mTS (List.mem_of_getElem? (i := 128) (by decide +kernel)) (by decide +kernel), cw_Pre_check, ⟨by decide, by decide, by decide +kernel⟩, by decide +kernel, by decide⟩
theorem lk_String_335 : Cond.methodLink "java/lang/String" 335 M_String_coder.1 ∈ TS := mTS (List.mem_of_getElem? (i := 248) (by decide +kernel)) (by decide +kernel)
theorem lk_String_492 : Cond.methodLink "java/lang/String" 492 M_String_isLatin1.1 ∈ TS := mTS (List.mem_of_getElem? (i := 258) (by decide +kernel)) (by decide +kernel)
theorem lk_String_495 : Cond.methodLink "java/lang/String" 495 M_Latin_charAt.1 ∈ TS := mTS (List.mem_of_getElem? (i := 262) (by decide +kernel)) (by decide +kernel)
theorem lk_Latin_9 : Cond.methodLink "java/lang/StringLatin1" 9 M_String_check.1 ∈ TS := mTS (List.mem_of_getElem? (i := 265) (by decide +kernel)) (by decide +kernel)
theorem lk_String_1059 : Cond.methodLink "java/lang/String" 1059 M_Pre_check.1 ∈ TS := mTS (List.mem_of_getElem? (i := 270) (by decide +kernel)) (by decide +kernel)
theorem fl_COMPACT : Cond.fieldLink "java/lang/String" 38 "java/lang/String" "COMPACT_STRINGS" "Z" ∈ TS := mTS (List.mem_of_getElem? (i := 252) (by decide +kernel)) (by decide +kernel)
theorem fl_SIOOBE : Cond.fieldLink "java/lang/String" 1053 "jdk/internal/util/Preconditions" "SIOOBE_FORMATTER" "Ljava/util/function/BiFunction;" ∈ TS := mTS (List.mem_of_getElem? (i := 268) (by decide +kernel)) (by decide +kernel)
theorem fl_coder : Cond.fieldLink "java/lang/String" 15 "java/lang/String" "coder" "B" ∈ TS := mTS (List.mem_of_getElem? (i := 2009) (by decide +kernel)) (by decide +kernel)
theorem fl_value : Cond.fieldLink "java/lang/String" 9 "java/lang/String" "value" "[B" ∈ TS := mTS (List.mem_of_getElem? (i := 2008) (by decide +kernel)) (by decide +kernel)
def sv (X : XT) (i : Nat) : Value := .ref (X.2.2.2.2 i)
/-- the bytes of the texts are below 128 -/
theorem byt_ok : ∀ i, i < 37 → lenS.getD i 0 = (bytS.getD i []).length ∧ ∀ b ∈ bytS.getD i [], w16 (bAnd b.toInt 255) = b.toInt ∧ narrow .char (vi b.toInt) = vi b.toInt := by decide +kernel
section JS
variable {X : XT} {fx : Bool} {n mc ms : Nat} {M : MI} {Q : Option Value → Nat → GS → Prop} {a cs ss pc : Nat} {L : List (Nat × Value)} {st : List Value} {G : GS}
theorem j_callK {own : String} {idx kk n' mc' ms' i : Nat} {M' : MI} {As st0 : List Value} {Q' : Option Value → Nat → GS → Prop} (hown : M.1.cls = own) (hl0 : Cond.methodLink own idx M'.1 ∈ TS) (hM : MOK M' kk) (hi : i < 37) (hcl : M'.1.cls = "java/lang/String") (hn : n' + 1 ≤ n) (hmc : cs + mc' ≤ mc ∧ ss + ms' ≤ ms) (hlen : As.length = kk) (hst : st0 = As.reverse ++ sr X i :: st) (hstk : (st.map fun v => v.category).sum ≤ 8)
    (hC : Call X fx n' mc' ms' M' (sr X i :: As) a G Q') (d : decode M.2.1 pc = .ok (.invokevirtual idx, 3))
    (k : ∀ (v : Option Value) (a' : Nat) (G' : GS), Q' v a' G' → J X fx n mc ms M Q a' (cs + mc') (ss + ms') (pc + 3) L (v.toList ++ st) G') : J X fx n mc ms M Q a cs ss pc L st0 G := by
  intro p l e s m args below meth c C H locs ls hz hF hP hS hl T0 hT0 X0
  have hsz : H.size = X.1 + a := heap_size hz C.2.2.2.2.2.2.2.2.2.2 hP hS hT0 X0
  obtain ⟨m1, m2, m3, m4, m5, m6, m7⟩ := hM
  subst hown
  have hts := C.2.2.2.2.2.2.1
  have cw : CallW (rm n mc ms) s args M.1.cls M'.1.cls idx M'.1 M'.2.1 M'.2.2.1 M'.2.2.2 (wsM M') (rm n' mc' ms') mc' ms' As.length := by
    refine ⟨⟨rfl, rfl, hn, ?_, ws_ok hts m4, List.mem_cons_self, hts _ m4, hts _ m3, ⟨m5.1, m5.2.1⟩, ?_, hts _ hl0⟩, hts _ m1, hts _ m2⟩
    · show 8 + (M'.2.2.1 + 11) + 40 * (n' + 1) ≤ 40 * (n + 1); omega
    · rw [hlen]; exact len_ok m6
  have hrecv : ∃ cell : Cell, H[X.2.2.2.1 i]? = some cell ∧ cell.vm.isStatics = false ∧ s.vm.findClass M'.1.cls = some cell.cls := by rw [hcl]; exact vk_recv (i := 0) (C.2.2.2.2.2.2.2.2.1.1 i hi) (by decide) hS
  refine j_run (av := sr X i :: As) C hz hsz hS hl (va_runV (As := As) (rest := st) ⟨C.1, C.2.1, C.2.2.2.2.1, C.2.2.2.2.2.1, hts⟩ (hC l) cw ⟨blind_Wd, hrecv, fun U hU hW => ⟨rfl, by rw [hU]; exact hsz, hF, by rw [hU]; exact hP, va_K.moved hW.alike C.2.2.2.2.2.2.2.1, C.2.2.2.2.2.2.2.2.1.at hS hU hW⟩⟩ rfl rfl hl.1 hst (lv_room hstk) d hmc) k T0 hT0 X0
theorem j_cKi {own : String} {idx kk n' i : Nat} {M' : MI} {As st0 : List Value} {r : Int} (hC : Call X fx n' 0 0 M' (sr X i :: As) a G (fun v a' G' => v = some (vi r) ∧ a' = a ∧ G' = G ∧ wr r = r)) (hown : M.1.cls = own) (hl0 : Cond.methodLink own idx M'.1 ∈ TS) (hM : MOK M' kk) (hi : i < 37) (hn : n' + 1 ≤ n) (hlen : As.length = kk) (hst : st0 = As.reverse ++ sr X i :: st) (hstk : (st.map fun v => v.category).sum ≤ 8) (d : decode M.2.1 pc = .ok (.invokevirtual idx, 3))
    (k : wr r = r → J X fx n mc ms M Q a cs ss (pc + 3) L (vi r :: st) G) (hmc : cs ≤ mc ∧ ss ≤ ms := by exact ⟨Nat.le_refl _, Nat.le_refl _⟩) (hcl : M'.1.cls = "java/lang/String" := by rfl) : J X fx n mc ms M Q a cs ss pc L st0 G :=
  j_callK hown hl0 hM hi hcl hn hmc hlen hst hstk hC d (fun v a' G' q => by obtain ⟨rfl, rfl, rfl, q⟩ := q; exact k q)
theorem j_getsC (hown : M.1.cls = "java/lang/String") (d : decode M.2.1 pc = .ok (.getstatic 38, 3)) (h : J X fx n mc ms M Q a cs ss (pc + 3) L (vi 1 :: st) G) : J X fx n mc ms M Q a cs ss pc L st G := by
  intro p l e' s m args below meth c C H locs ls hz hF hP hS hl
  exact va_gets C.1 C.2.1 C.2.2.2.2.2.2.2.2.1.2.2.1 hS C.2.2.2.2.2.1 (C.2.2.2.2.2.2.1 _ (by rw [hown]; exact fl_COMPACT)) (fun _ h => h) d (h C hz hF hP hS hl)
theorem j_getsQ (hown : M.1.cls = "java/lang/String") (d : decode M.2.1 pc = .ok (.getstatic 1053, 3)) (h : ∀ v : Value, v.category = 1 → J X fx n mc ms M Q a cs ss (pc + 3) L (v :: st) G) : J X fx n mc ms M Q a cs ss pc L st G := by
  intro p l e' s m args below meth c C H locs ls hz hF hP hS hl
  rcases C.2.2.2.2.2.2.2.2.1.2.2.2.1 with hz1 | ⟨t, hz1⟩
  · exact va_gets C.1 C.2.1 hz1 hS C.2.2.2.2.2.1 (C.2.2.2.2.2.2.1 _ (by rw [hown]; exact fl_SIOOBE)) (fun _ h => h) d (h .null rfl C hz hF hP hS hl)
  · exact va_gets C.1 C.2.1 hz1 hS C.2.2.2.2.2.1 (C.2.2.2.2.2.2.1 _ (by rw [hown]; exact fl_SIOOBE)) (fun _ h => h) d (h (.ref t) rfl C hz hF hP hS hl)
theorem j_getCoder {i : Nat} (hi : i < 37) (hown : M.1.cls = "java/lang/String") (d : decode M.2.1 pc = .ok (.getfield 15, 3)) (h : J X fx n mc ms M Q a cs ss (pc + 3) L (vi 0 :: st) G) : J X fx n mc ms M Q a cs ss pc L (sr X i :: st) G := by
  intro p l e' s m args below meth c C H locs ls hz hF hP hS hl
  exact vk_getf C.1 C.2.1 ((C.2.2.2.2.2.2.2.2.1.1 i hi).1 0 (by decide)).2.1 hS C.2.2.2.2.2.1 (C.2.2.2.2.2.2.1 _ (by rw [hown]; exact fl_coder)) (fun _ h => h) d (h C hz hF hP hS hl)
theorem j_getValue {i : Nat} (hi : i < 37) (hown : M.1.cls = "java/lang/String") (d : decode M.2.1 pc = .ok (.getfield 9, 3)) (h : J X fx n mc ms M Q a cs ss (pc + 3) L (sv X i :: st) G) : J X fx n mc ms M Q a cs ss pc L (sr X i :: st) G := by
  intro p l e' s m args below meth c C H locs ls hz hF hP hS hl
  exact vk_getf C.1 C.2.1 ((C.2.2.2.2.2.2.2.2.1.1 i hi).1 0 (by decide)).2.2.1 hS C.2.2.2.2.2.1 (C.2.2.2.2.2.2.1 _ (by rw [hown]; exact fl_value)) (fun _ h => h) d (h C hz hF hP hS hl)
theorem j_lenV {i : Nat} (hi : i < 37) (d : decode M.2.1 pc = .ok (.arraylength, 1)) (h : J X fx n mc ms M Q a cs ss (pc + 1) L (vi (lenI i) :: st) G) : J X fx n mc ms M Q a cs ss pc L (sv X i :: st) G := by
  intro p l e' s m args below meth c C H locs ls hz hF hP hS hl
  exact va_tlen C.1 C.2.1 ((C.2.2.2.2.2.2.2.2.1.1 i hi).1 0 (by decide)).2.2.2 hS (i32_nat _) d (h C hz hF hP hS hl)
theorem j_baldV {i : Nat} {x x' : Int} (hi : i < 37) (hx : wr x = x') (h0 : 0 ≤ x') (h1 : x' < lenI i) (d : decode M.2.1 pc = .ok (.baload, 1)) (h : J X fx n mc ms M Q a cs ss (pc + 1) L (vi (chS i x'.toNat) :: st) G) : J X fx n mc ms M Q a cs ss pc L (vi x :: sv X i :: st) G := by
  intro p l e' s m args below meth c C H locs ls hz hF hP hS hl
  exact va_tb C.1 C.2.1 ((C.2.2.2.2.2.2.2.2.1.1 i hi).1 0 (by decide)).2.2.2 hS (vp_inN hx h0 (by unfold lenI at h1; exact h1)) (by rw [clampN hx, vi, chS, Int32.ofInt_toInt]; rfl) d (h C hz hF hP hS hl)
theorem c_String_coder {i : Nat} (hi : i < 37) : Call X fx 5 0 0 M_String_coder [sr X i] a G (fun v a' G' => v = some (vi 0) ∧ a' = a ∧ G' = G ∧ wr 0 = 0) := by
  refine Call_of_J cw_String_coder (by decide +kernel) (Nat.le_of_ble_eq_true rfl) ?_
  show J X fx 5 0 0 M_String_coder _ a 0 0 0 [(0, sr X i)] [] G
  refine j_getsC rfl (D_coder 0 rfl) ?_
  refine j_if_eq (tgt := 13) (D_coder 1 rfl) rfl (wr_lit rfl) (fun h => by omega) (fun _ => ?_)
  refine j_aloadn (k := 0) (D_coder 2 rfl) rfl rfl ?_
  refine j_getCoder hi rfl (D_coder 3 rfl) ?_
  refine j_goto (tgt := 14) (D_coder 4 rfl) rfl ?_
  exact j_zret (D_coder 6 rfl) rfl wr_z (by decide) rfl rfl ⟨rfl, rfl, rfl, wr_z⟩
theorem c_String_isLatin1 {i : Nat} (hi : i < 37) : Call X fx 5 0 0 M_String_isLatin1 [sr X i] a G (fun v a' G' => v = some (vi 1) ∧ a' = a ∧ G' = G ∧ wr 1 = 1) := by
  refine Call_of_J cw_String_isLatin1 (by decide +kernel) (Nat.le_of_ble_eq_true rfl) ?_
  show J X fx 5 0 0 M_String_isLatin1 _ a 0 0 0 [(0, sr X i)] [] G
  refine j_getsC rfl (D_isLatin1 0 rfl) ?_
  refine j_if_eq (tgt := 17) (D_isLatin1 1 rfl) rfl (wr_lit rfl) (fun h => by omega) (fun _ => ?_)
  refine j_aloadn (k := 0) (D_isLatin1 2 rfl) rfl rfl ?_
  refine j_getCoder hi rfl (D_isLatin1 3 rfl) ?_
  refine j_if_ne (tgt := 17) (D_isLatin1 4 rfl) rfl (wr_lit rfl) (fun h => by omega) (fun _ => ?_)
  refine j_iconst (v := 1) (D_isLatin1 5 rfl) rfl ?_
  refine j_goto (tgt := 18) (D_isLatin1 6 rfl) rfl ?_
  exact j_zret (D_isLatin1 8 rfl) rfl (wr_lit rfl) (by decide) rfl rfl ⟨rfl, rfl, rfl, wr_lit rfl⟩
theorem c_Pre_check {x y : Int} {v : Value} (hv : v.category = 1) (hx : wr x = x) (hy : wr y = y) (h0 : 0 ≤ x) (h1 : x < y) : Call X fx 5 0 0 M_Pre_check [vi x, vi y, v] a G (fun w a' G' => w = some (vi x) ∧ a' = a ∧ G' = G ∧ wr x = x) := by
  refine Call_of_J cw_Pre_check (by decide +kernel) ?_ ?_
  · cases v <;> first | exact Nat.le_of_ble_eq_true rfl | (simp [Value.category] at hv)
  have e : lv_args 0 [vi x, vi y, v] = [(0, vi x), (1, vi y), (2, v)] := by
    cases v <;> first | rfl | (simp [Value.category] at hv)
  rw [e]
  refine j_iloadn (k := 0) (D_pre 0 rfl) rfl rfl ?_
  refine j_if_lt (tgt := 9) (D_pre 1 rfl) rfl hx (fun h => by omega) (fun _ => ?_)
  refine j_iloadn (k := 0) (D_pre 2 rfl) rfl rfl ?_
  refine j_iloadn (k := 1) (D_pre 3 rfl) rfl rfl ?_
  refine j_ic_lt (tgt := 16) (D_pre 4 rfl) rfl hx hy (fun _ => ?_) (fun h => absurd h1 h)
  refine j_iloadn (k := 0) (D_pre 5 rfl) rfl rfl ?_
  exact j_iret (D_pre 6 rfl) rfl hx rfl rfl ⟨rfl, rfl, rfl, hx⟩
theorem c_String_check {x y : Int} (hx : wr x = x) (hy : wr y = y) (h0 : 0 ≤ x) (h1 : x < y) : Call X fx 6 0 0 M_String_check [vi x, vi y] a G (fun w a' G' => w = none ∧ a' = a ∧ G' = G) := by
  refine Call_of_J cw_String_check (by decide +kernel) (Nat.le_of_ble_eq_true rfl) ?_
  show J X fx 6 0 0 M_String_check _ a 0 0 0 [(0, vi x), (1, vi y)] [] G
  refine j_iloadn (k := 0) (D_check 0 rfl) rfl rfl ?_
  refine j_iloadn (k := 1) (D_check 1 rfl) rfl rfl ?_
  refine j_getsQ rfl (D_check 2 rfl) (fun v hv => ?_)
  refine j_callS (As := [vi x, vi y, v]) (kk := 3) rfl lk_String_1059 sok_Pre_check (by decide) ⟨Nat.le_refl _, Nat.le_refl _⟩ rfl rfl (Nat.le_of_ble_eq_true rfl) (c_Pre_check hv hx hy h0 h1) (D_check 3 rfl) (fun w a' G' q => ?_)
  obtain ⟨rfl, rfl, rfl, q⟩ := q
  refine j_pop (v := vi x) (D_check 4 rfl) rfl ?_
  exact j_vret (D_check 5 rfl) rfl rfl rfl ⟨rfl, rfl, rfl⟩
theorem chS_ok {i k : Nat} (hi : i < 37) (hk : k < lenS.getD i 0) : w16 (bAnd (chS i k) 255) = chS i k ∧ narrow .char (vi (chS i k)) = vi (chS i k) := by
  obtain ⟨h1, h2⟩ := byt_ok i hi
  rw [h1] at hk
  unfold chS
  rw [List.getD_eq_getElem?_getD, List.getElem?_eq_getElem hk]
  exact h2 _ (List.getElem_mem hk)
theorem c_Latin_charAt {i : Nat} {x : Int} (hi : i < 37) (hx : wr x = x) (h0 : 0 ≤ x) (h1 : x < lenI i) : Call X fx 7 0 0 M_Latin_charAt [sv X i, vi x] a G (fun w a' G' => w = some (vi (chS i x.toNat)) ∧ a' = a ∧ G' = G ∧ wr (chS i x.toNat) = chS i x.toNat) := by
  refine Call_of_J cw_Latin_charAt (by decide +kernel) (Nat.le_of_ble_eq_true rfl) ?_
  show J X fx 7 0 0 M_Latin_charAt _ a 0 0 0 [(0, sv X i), (1, vi x)] [] G
  refine j_iloadn (k := 1) (D_Latin 0 rfl) rfl rfl ?_
  refine j_aloadn (k := 0) (D_Latin 1 rfl) rfl rfl ?_
  refine j_lenV hi (D_Latin 2 rfl) ?_
  refine j_callS (As := [vi x, vi (lenI i)]) (kk := 2) rfl lk_Latin_9 sok_String_check (by decide) ⟨Nat.le_refl _, Nat.le_refl _⟩ rfl rfl (Nat.le_of_ble_eq_true rfl) (c_String_check hx (wr_lenI hi) h0 h1) (D_Latin 3 rfl) (fun w a' G' q => ?_)
  obtain ⟨rfl, rfl, rfl⟩ := q
  refine j_aloadn (k := 0) (D_Latin 4 rfl) rfl rfl ?_
  refine j_iloadn (k := 1) (D_Latin 5 rfl) rfl rfl ?_
  refine j_baldV hi hx h0 h1 (D_Latin 6 rfl) ?_
  refine j_sipush (v := 255) (D_Latin 7 rfl) rfl ?_
  refine j_iand (D_Latin 8 rfl) ?_
  refine j_i2c (D_Latin 9 rfl) ?_
  have e := chS_ok (k := x.toNat) hi (by unfold lenI at h1; omega)
  rw [e.1]
  exact j_zret (D_Latin 10 rfl) rfl (wr_chS _ _) e.2 rfl rfl ⟨rfl, rfl, rfl, wr_chS _ _⟩
theorem c_String_charAt {i : Nat} {x : Int} (hi : i < 37) (hx : wr x = x) (h0 : 0 ≤ x) (h1 : x < lenI i) : Call X fx 8 0 0 M_String_charAt [sr X i, vi x] a G (fun w a' G' => w = some (vi (chS i x.toNat)) ∧ a' = a ∧ G' = G ∧ wr (chS i x.toNat) = chS i x.toNat) := by
  refine Call_of_J cw_String_charAt (by decide +kernel) (Nat.le_of_ble_eq_true rfl) ?_
  show J X fx 8 0 0 M_String_charAt _ a 0 0 0 [(0, sr X i), (1, vi x)] [] G
  refine j_aloadn (k := 0) (D_charAt 0 rfl) rfl rfl ?_
  refine j_cKi (As := []) (c_String_isLatin1 hi) rfl lk_String_492 mok_String_isLatin1 hi (by decide) rfl rfl (by decide) (D_charAt 1 rfl) (fun _ => ?_)
  refine j_if_eq (tgt := 16) (D_charAt 2 rfl) rfl (wr_lit rfl) (fun h => by omega) (fun _ => ?_)
  refine j_aloadn (k := 0) (D_charAt 3 rfl) rfl rfl ?_
  refine j_getValue hi rfl (D_charAt 4 rfl) ?_
  refine j_iloadn (k := 1) (D_charAt 5 rfl) rfl rfl ?_
  refine j_callS (As := [sv X i, vi x]) (kk := 2) rfl lk_String_495 sok_Latin_charAt (by decide) ⟨Nat.le_refl _, Nat.le_refl _⟩ rfl rfl (Nat.le_of_ble_eq_true rfl) (c_Latin_charAt hi hx h0 h1) (D_charAt 6 rfl) (fun w a' G' q => ?_)
  obtain ⟨rfl, rfl, rfl, q⟩ := q
  have e := chS_ok (k := x.toNat) hi (by unfold lenI at h1; omega)
  exact j_zret (D_charAt 7 rfl) rfl (wr_chS _ _) e.2 rfl rfl ⟨rfl, rfl, rfl, q⟩
theorem shr0 {i : Nat} (hi : i < 37) : bShr (lenI i) 0 = lenI i := by
  have key : ∀ j, j < 37 → bShr ((lenS.getD j 0 : Nat) : Int) 0 = ((lenS.getD j 0 : Nat) : Int) := by decide +kernel
  exact key i hi
theorem c_String_length {i : Nat} (hi : i < 37) : Call X fx 6 0 0 M_String_length [sr X i] a G (fun w a' G' => w = some (vi (lenI i)) ∧ a' = a ∧ G' = G ∧ wr (lenI i) = lenI i) := by
  refine Call_of_J cw_String_length (by decide +kernel) (Nat.le_of_ble_eq_true rfl) ?_
  show J X fx 6 0 0 M_String_length _ a 0 0 0 [(0, sr X i)] [] G
  refine j_aloadn (k := 0) (D_length 0 rfl) rfl rfl ?_
  refine j_getValue hi rfl (D_length 1 rfl) ?_
  refine j_lenV hi (D_length 2 rfl) ?_
  refine j_aloadn (k := 0) (D_length 3 rfl) rfl rfl ?_
  refine j_cKi (As := []) (c_String_coder hi) rfl lk_String_335 mok_String_coder hi (by decide) rfl rfl (Nat.le_of_ble_eq_true rfl) (D_length 4 rfl) (fun _ => ?_)
  refine j_ishr (D_length 5 rfl) ?_
  rw [shr0 hi]
  exact j_iret (D_length 6 rfl) rfl (wr_lenI hi) rfl rfl ⟨rfl, rfl, rfl, wr_lenI hi⟩
end JS
-- Math's max and min, by the kit's own rows
theorem wr_max {x y : Int} (hx : wr x = x) (hy : wr y = y) : wr (max x y) = max x y := by
  rcases Int.le_total x y with h | h
  · rw [Int.max_eq_right h]; exact hy
  · rw [Int.max_eq_left h]; exact hx
theorem wr_min {x y : Int} (hx : wr x = x) (hy : wr y = y) : wr (min x y) = min x y := by
  rcases Int.le_total x y with h | h
  · rw [Int.min_eq_left h]; exact hx
  · rw [Int.min_eq_right h]; exact hy
theorem wl_max {x y : Int} (hx : wl x = x) (hy : wl y = y) : wl (max x y) = max x y := by
  rcases Int.le_total x y with h | h
  · rw [Int.max_eq_right h]; exact hy
  · rw [Int.max_eq_left h]; exact hx
theorem st_max : Cond.static Lib.Math.max.name ∈ TS ∧ Cond.static Lib.Math.min.name ∈ TS ∧ Cond.static Lib.MathLoose.max_long.x ∈ TS ∧ Cond.initialized "java/lang/Math" ∈ TS ∧ Cond.code Lib.Math.max.name Lib.Math.max.code 2 (some .int) ∈ TS ∧ Cond.code Lib.Math.min.name Lib.Math.min.code 2 (some .int) ∈ TS ∧ Cond.code Lib.MathLoose.max_long.x Lib.MathLoose.max_long.code 4 (some .long) ∈ TS :=
  ⟨mTS (List.mem_of_getElem? (i := 891) (by decide +kernel)) (by decide +kernel), mTS (List.mem_of_getElem? (i := 1110) (by decide +kernel)) (by decide +kernel), mTS (List.mem_of_getElem? (i := 1004) (by decide +kernel)) (by decide +kernel), mTS (List.mem_of_getElem? (i := 140) (by decide +kernel)) (by decide +kernel), mTS (List.mem_of_getElem? (i := 892) (by decide +kernel)) (by decide +kernel), mTS (List.mem_of_getElem? (i := 1111) (by decide +kernel)) (by decide +kernel), mTS (List.mem_of_getElem? (i := 1005) (by decide +kernel)) (by decide +kernel)⟩
section JM
variable {X : XT} {fx : Bool} {n mc ms : Nat} {M : MI} {Q : Option Value → Nat → GS → Prop} {a cs ss pc : Nat} {L : List (Nat × Value)} {st : List Value} {G : GS}
theorem j_mmax {own : String} {idx : Nat} {x y x' y' : Int} (hx : wr x = x') (hy : wr y = y') (hown : M.1.cls = own) (hl0 : Cond.methodLink own idx Lib.Math.max.name ∈ TS) (hn : 1 ≤ n) (hstk : (st.map fun v => v.category).sum ≤ 8) (d : decode M.2.1 pc = .ok (.invokestatic idx, 3)) (h : J X fx n mc ms M Q a cs ss (pc + 3) L (vi (max x' y') :: st) G) (hmc : cs ≤ mc ∧ ss ≤ ms := by exact ⟨Nat.le_refl _, Nat.le_refl _⟩) : J X fx n mc ms M Q a cs ss pc L (vi y :: vi x :: st) G := by
  intro p l e' s m args below meth c C H locs ls hz hF hP hS hl
  subst hown
  have hts := C.2.2.2.2.2.2.1
  refine va_mmax C.1 C.2.1 (by rw [C.2.2.2.2.1]; exact hl.1.symm) C.2.2.2.2.2.1 (hts _ hl0) (hts _ st_max.1) (hts _ st_max.2.2.2.1) (hts _ st_max.2.2.2.2.1) hn (by show _ + 13 ≤ 40 * (n + 1); omega) hmc.1 hmc.2 d ?_
  have e : (if Int32.ofInt x < Int32.ofInt y then Int32.ofInt y else Int32.ofInt x) = Int32.ofInt (max x' y') := by
    by_cases q : x' < y'
    · rw [if_pos ((c_lt hx hy).mpr q), Int.max_eq_right (by omega), ← hy, i32_wr]
    · rw [if_neg (fun z => q ((c_lt hx hy).mp z)), Int.max_eq_left (by omega), ← hx, i32_wr]
  rw [e]
  exact h C hz hF hP hS hl
theorem j_mmin {own : String} {idx : Nat} {x y x' y' : Int} (hx : wr x = x') (hy : wr y = y') (hown : M.1.cls = own) (hl0 : Cond.methodLink own idx Lib.Math.min.name ∈ TS) (hn : 1 ≤ n) (hstk : (st.map fun v => v.category).sum ≤ 8) (d : decode M.2.1 pc = .ok (.invokestatic idx, 3)) (h : J X fx n mc ms M Q a cs ss (pc + 3) L (vi (min x' y') :: st) G) (hmc : cs ≤ mc ∧ ss ≤ ms := by exact ⟨Nat.le_refl _, Nat.le_refl _⟩) : J X fx n mc ms M Q a cs ss pc L (vi y :: vi x :: st) G := by
  intro p l e' s m args below meth c C H locs ls hz hF hP hS hl
  subst hown
  have hts := C.2.2.2.2.2.2.1
  refine va_mmin C.1 C.2.1 (by rw [C.2.2.2.2.1]; exact hl.1.symm) C.2.2.2.2.2.1 (hts _ hl0) (hts _ st_max.2.1) (hts _ st_max.2.2.2.1) (hts _ st_max.2.2.2.2.2.1) hn (by show _ + 13 ≤ 40 * (n + 1); omega) hmc.1 hmc.2 d ?_
  have e : (if Int32.ofInt y < Int32.ofInt x then Int32.ofInt y else Int32.ofInt x) = Int32.ofInt (min x' y') := by
    by_cases q : y' < x'
    · rw [if_pos ((c_lt hy hx).mpr q), Int.min_eq_right (by omega), ← hy, i32_wr]
    · rw [if_neg (fun z => q ((c_lt hy hx).mp z)), Int.min_eq_left (by omega), ← hx, i32_wr]
  rw [e]
  exact h C hz hF hP hS hl
theorem j_mmaxl {own : String} {idx : Nat} {x y x' y' : Int} (hx : wl x = x') (hy : wl y = y') (hown : M.1.cls = own) (hl0 : Cond.methodLink own idx Lib.MathLoose.max_long.x ∈ TS) (hn : 1 ≤ n) (hstk : (st.map fun v => v.category).sum ≤ 8) (d : decode M.2.1 pc = .ok (.invokestatic idx, 3)) (h : J X fx n mc ms M Q a cs ss (pc + 3) L (vl (max x' y') :: st) G) (hmc : cs ≤ mc ∧ ss ≤ ms := by exact ⟨Nat.le_refl _, Nat.le_refl _⟩) : J X fx n mc ms M Q a cs ss pc L (vl y :: vl x :: st) G := by
  intro p l e' s m args below meth c C H locs ls hz hF hP hS hl
  subst hown
  have hts := C.2.2.2.2.2.2.1
  refine va_mmax_long C.1 C.2.1 (by rw [C.2.2.2.2.1]; exact hl.1.symm) C.2.2.2.2.2.1 (hts _ hl0) (hts _ st_max.2.2.1) (hts _ st_max.2.2.2.1) (hts _ st_max.2.2.2.2.2.2) hn (by show _ + 15 ≤ 40 * (n + 1); omega) hmc.1 hmc.2 d ?_
  have cl : Int64.ofInt y < Int64.ofInt x ↔ y' < x' := by rw [Int64.lt_iff_toInt_lt]; show wl y < wl x ↔ _; rw [hx, hy]
  have e : (if Int64.ofInt y < Int64.ofInt x then Int64.ofInt x else Int64.ofInt y) = Int64.ofInt (max x' y') := by
    by_cases q : y' < x'
    · rw [if_pos (cl.mpr q), Int.max_eq_left (by omega), ← hx, i64_wl]
    · rw [if_neg (fun z => q (cl.mp z)), Int.max_eq_right (by omega), ← hy, i64_wl]
  rw [e]
  exact h C hz hF hP hS hl
end JM
