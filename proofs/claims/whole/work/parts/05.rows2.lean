/-! rows of J that write, that end and that call -/
def MOK (M : MI) (k : Nat) : Prop := Cond.instanceMethod M.1 ∈ TS ∧ Cond.selects M.1.cls M.1 M.1 ∈ TS ∧ Cond.initialized M.1.cls ∈ TS ∧ Cond.code M.1 M.2.1 M.2.2.1 M.2.2.2 ∈ TS ∧ (M.1.cls ≠ "java/lang/invoke/MethodHandle" ∧ M.1.cls ≠ "java/lang/invoke/VarHandle" ∧ plainName M.1.cls = true) ∧ (parseMethodDescriptor M.1.desc).map (fun d => d.parameters.length) = some k ∧ M.2.2.1 ≤ 20
def SOK (M : MI) (k : Nat) : Prop := Cond.static M.1 ∈ TS ∧ Cond.initialized M.1.cls ∈ TS ∧ Cond.code M.1 M.2.1 M.2.2.1 M.2.2.2 ∈ TS ∧ (M.1.cls ≠ "java/lang/invoke/MethodHandle" ∧ M.1.cls ≠ "java/lang/invoke/VarHandle" ∧ plainName M.1.cls = true) ∧ (parseMethodDescriptor M.1.desc).map (fun d => d.parameters.length) = some k ∧ M.2.2.1 ≤ 20
def IOK (M : MI) (k : Nat) : Prop := Cond.instanceMethod M.1 ∈ TS ∧ M.1.name = "<init>" ∧ M.2.2.2 = none ∧ Cond.initialized M.1.cls ∈ TS ∧ Cond.code M.1 M.2.1 M.2.2.1 M.2.2.2 ∈ TS ∧ (M.1.cls ≠ "java/lang/invoke/MethodHandle" ∧ M.1.cls ≠ "java/lang/invoke/VarHandle" ∧ plainName M.1.cls = true) ∧ (parseMethodDescriptor M.1.desc).map (fun d => d.parameters.length) = some k ∧ M.2.2.1 ≤ 20
theorem good_wsM {M : MI} (h : Cond.code M.1 M.2.1 M.2.2.1 M.2.2.2 ∈ TS) : GoodIn TS (wsM M) := by
  intro w hw
  rcases List.mem_cons.mp hw with e | e
  · subst e; exact ⟨h, flag_of (TSm h).2⟩
  · exact ⟨e, flag_of (TSm e).2⟩
theorem blind_Wd {X : XT} {fx : Bool} {a : Nat} {G : GS} {av : List Value} : FrameBlind (va_Pc av (Wd X fx a G)) := by
  intro ar U g mk h
  obtain ⟨h1, h2, h3, h4, h5, h6⟩ := h
  exact ⟨h1, h2, h3, h4, va_K.moved (u := U) (U := U.calling g mk ar) (Vm.Alike.refl U.vm) h5, h6.same (U := U.calling g mk ar) rfl rfl⟩
theorem upd_si {G : GS} {c k : Nat} {v : Int} : upd (fun j => Int32.ofInt (G.1 c j)) k (Int32.ofInt v) = fun j => Int32.ofInt ((si G c k v).1 c j) := by
  funext j
  by_cases h : j = k
  · simp [upd, si, h]
  · simp [upd, si, h]
theorem upd_sl {G : GS} {c k : Nat} {v : Int} : vp_updL (fun j => Int64.ofInt (G.2.1 c j)) k (Int64.ofInt v) = fun j => Int64.ofInt ((sl G c k v).2.1 c j) := by
  funext j
  by_cases h : j = k
  · simp [vp_updL, sl, h]
  · simp [vp_updL, sl, h]
theorem upd_sp {X : XT} {G : GS} {c k v : Nat} (h0 : v ≠ 0) : va_up (fun j => po X (G.2.2 c j)) k (some (X.1 + v)) = fun j => po X ((sp G c k v).2.2 c j) := by
  funext j
  by_cases h : j = k
  · simp [va_up, sp, h, po, h0]
  · simp [va_up, sp, h]
theorem fits_b {x : Int} {x' : Int} (hx : wr x = x') (h : x' = 0 ∨ x' = 1) : narrow .boolean (vi x) = vi x ∧ fits .boolean (vi x) = true := by
  rw [vi_eq hx]
  rcases h with h | h <;> subst h <;> decide
theorem nar_z {x : Int} {x' : Int} (hx : wr x = x') (h : x' = 0 ∨ x' = 1) : vp_nar .boolean (Int32.ofInt x) = Int32.ofInt x := by
  have e : Int32.ofInt x = Int32.ofInt x' := by rw [← hx, i32_wr]
  rw [e]
  rcases h with h | h <;> subst h <;> decide
theorem nar_b (x : Int) : vp_nar .byte (Int32.ofInt (w8 x)) = Int32.ofInt (w8 x) := by
  rw [w8, Int32.ofInt_toInt]
  show (Int32.ofInt x).toInt8.toInt32.toInt8.toInt32 = _
  simp
section JR3
variable {X : XT} {fx : Bool} {n mc ms : Nat} {M : MI} {Q : Option Value → Nat → GS → Prop} {a cs ss pc : Nat} {L : List (Nat × Value)} {st : List Value} {G : GS}
theorem j_put {own : String} {idx ci k c0 N : Nat} {τ : FieldType} {v : Value} {G' : GS} (hown : M.1.cls = own) (fa : FA own idx ci k false τ) (hc : kd c0 = (ci + 5, N)) (hca : c0 < a) (hk : k < N) (hn : narrow τ v = v) (hfit : fits τ v = true)
    (hw : wE X G' c0 = .inr (ci, ((List.range N).map (fV X G c0 ci)).set k v)) (ho : ∀ j, j ≠ c0 → wE X G' j = wE X G j) (hwf : WF fx a G → WF fx a G') (d : decode M.2.1 pc = .ok (.putfield idx, 3)) (h : J X fx n mc ms M Q a cs ss (pc + 3) L st G') : J X fx n mc ms M Q a cs ss pc L (v :: rf X c0 :: st) G := by
  intro p l e' s m args below meth c C H locs ls hz hF hP hS hl
  obtain ⟨K, T, N', ty, ⟨q1, q2, q3, q4, q5⟩, q6, q7, q8, q9⟩ := fa
  subst hown
  refine va_put C.1 C.2.1 C.2.2.2.2.2.2.1 q2 ty q3 q4 C.2.2.2.2.2.1 C.2.2.2.2.2.2.2.1 hP (wsG_D X a G) hS c0 (by rw [wsG_get hca, wE_o hc]) q1 k q6 (C.2.2.2.2.2.2.1 _ q7) (by rw [q5 k q6]; exact fun _ h => h) q8 (ty := τ) (by rw [q3 k q6, q9]) hn hfit (by simpa using hk) d (fun H1 locs1 hP1 hD1 hS1 => ?_)
  rw [← hw, wsG_set rfl ho] at hP1
  exact h C hz (hwf hF) hP1 hS1 hl
theorem wE_si_o {G : GS} {c0 ci N k : Nat} {v : Int} (hc : kd c0 = (ci + 5, N)) (hf : ft ci k = 0) : wE X (si G c0 k v) c0 = .inr (ci, ((List.range N).map (fV X G c0 ci)).set k (vi v)) := by
  rw [wE_o hc, fs_set (G' := si G c0 k v) (by rw [fV, if_pos hf]; simp [si]) (fun j hj => by simp [fV, si, sl, sp, hj])]
theorem wE_sl_o {G : GS} {c0 ci N k : Nat} {v : Int} (hc : kd c0 = (ci + 5, N)) (hf : ft ci k = 1) : wE X (sl G c0 k v) c0 = .inr (ci, ((List.range N).map (fV X G c0 ci)).set k (vl v)) := by
  rw [wE_o hc, fs_set (G' := sl G c0 k v) (by rw [fV, if_neg (by omega), if_pos hf]; simp [sl]) (fun j hj => by simp [fV, si, sl, sp, hj])]
theorem wE_sp_o {G : GS} {c0 ci N k v : Nat} (hc : kd c0 = (ci + 5, N)) (hf : ft ci k = 2) (h0 : v ≠ 0) : wE X (sp G c0 k v) c0 = .inr (ci, ((List.range N).map (fV X G c0 ci)).set k (rf X v)) := by
  rw [wE_o hc, fs_set (G' := sp G c0 k v) (by rw [fV, if_neg (by omega), if_neg (by omega)]; simp [sp, pv_rf h0]) (fun j hj => by simp [fV, si, sl, sp, hj])]
theorem j_putI {own : String} {idx ci k c0 N : Nat} {v : Int} (hown : M.1.cls = own) (fa : FA own idx ci k false .int) (hc : kd c0 = (ci + 5, N)) (hca : c0 < a) (hk : k < N) (hf : ft ci k = 0) (d : decode M.2.1 pc = .ok (.putfield idx, 3)) (h : J X fx n mc ms M Q a cs ss (pc + 3) L st (si G c0 k v)) : J X fx n mc ms M Q a cs ss pc L (vi v :: rf X c0 :: st) G :=
  j_put hown fa hc hca hk rfl rfl (wE_si_o hc hf) wE_si_ne (fun w => WF_si w hca) d h
theorem j_putZ {own : String} {idx ci k c0 N : Nat} {v v' : Int} (hown : M.1.cls = own) (fa : FA own idx ci k false .boolean) (hc : kd c0 = (ci + 5, N)) (hca : c0 < a) (hk : k < N) (hf : ft ci k = 0) (hv : wr v = v') (hb : v' = 0 ∨ v' = 1) (d : decode M.2.1 pc = .ok (.putfield idx, 3)) (h : J X fx n mc ms M Q a cs ss (pc + 3) L st (si G c0 k v)) : J X fx n mc ms M Q a cs ss pc L (vi v :: rf X c0 :: st) G :=
  j_put hown fa hc hca hk (fits_b hv hb).1 (fits_b hv hb).2 (wE_si_o hc hf) wE_si_ne (fun w => WF_si w hca) d h
theorem j_putJ {own : String} {idx ci k c0 N : Nat} {v : Int} (hown : M.1.cls = own) (fa : FA own idx ci k false .long) (hc : kd c0 = (ci + 5, N)) (hca : c0 < a) (hk : k < N) (hf : ft ci k = 1) (d : decode M.2.1 pc = .ok (.putfield idx, 3)) (h : J X fx n mc ms M Q a cs ss (pc + 3) L st (sl G c0 k v)) : J X fx n mc ms M Q a cs ss pc L (vl v :: rf X c0 :: st) G :=
  j_put hown fa hc hca hk rfl rfl (wE_sl_o hc hf) wE_sl_ne (fun w => WF_sl w hca) d h
theorem j_putR {own D : String} {idx ci k c0 N v : Nat} (hown : M.1.cls = own) (fa : FA own idx ci k false (.object D)) (hc : kd c0 = (ci + 5, N)) (hca : c0 < a) (hk : k < N) (hf : ft ci k = 2) (h0 : v ≠ 0) (hfx : fx = false ∨ ∀ q ∈ fixL, ¬ (q.1 = c0 ∧ q.2.1 = k)) (d : decode M.2.1 pc = .ok (.putfield idx, 3)) (h : J X fx n mc ms M Q a cs ss (pc + 3) L st (sp G c0 k v)) : J X fx n mc ms M Q a cs ss pc L (rf X v :: rf X c0 :: st) G :=
  j_put hown fa hc hca hk rfl rfl (wE_sp_o hc hf h0) wE_sp_ne (fun w => WF_sp w hca hfx) d h
/-- a final reference, in its own constructor -/
theorem j_putRF {own : String} {τ : FieldType} {idx ci k c0 N v : Nat} (hown : M.1.cls = own) (hini : M.1.name = "<init>") (hKo : ∀ (C : String) (T : u_T) (N : Nat) (ty : Nat → FieldType), ClsOK ci C T N ty → C = own) (fa : FA own idx ci k true τ) (hτ : (∃ D, τ = .object D) ∨ ∃ D, τ = .array D) (hc : kd c0 = (ci + 5, N)) (hca : c0 < a) (hk : k < N) (hf : ft ci k = 2) (h0 : v ≠ 0) (hfx : fx = false) (d : decode M.2.1 pc = .ok (.putfield idx, 3)) (h : J X fx n mc ms M Q a cs ss (pc + 3) L st (sp G c0 k v)) : J X fx n mc ms M Q a cs ss pc L (rf X v :: rf X c0 :: st) G := by
  intro p l e' s m args below meth c C H locs ls hz hF hP hS hl
  obtain ⟨K, T, N', ty, hok, q6, q7, q8, q10⟩ := fa
  have hKo : K = own := hKo _ _ _ _ hok
  obtain ⟨q1, q2, q3, q4, q5⟩ := hok
  subst hown
  have hnf : narrow τ (rf X v) = rf X v ∧ fits τ (rf X v) = true := by rcases hτ with ⟨D, e⟩ | ⟨D, e⟩ <;> subst e <;> exact ⟨rfl, rfl⟩
  refine va_putF C.1 C.2.1 C.2.2.2.2.2.2.1 q2 ty q3 q4 C.2.2.2.2.2.1 C.2.2.2.2.2.2.2.1 hP (wsG_D X a G) hS c0 (by rw [wsG_get hca, wE_o hc]) q1 k q6 (C.2.2.2.2.2.2.1 _ q7) (by rw [q5 k q6]; exact fun _ h => h) q8 (by rw [C.2.2.2.2.2.2.2.2.2.1]; exact hini) (by rw [q5 k q6]; exact hKo) (ty := τ) (by rw [q3 k q6, q10]) hnf.1 hnf.2 (by simpa using hk) d (fun H1 locs1 hP1 hD1 hS1 => ?_)
  rw [← wE_sp_o hc hf h0, wsG_set rfl wE_sp_ne] at hP1
  exact h C hz (WF_sp hF hca (Or.inl hfx)) hP1 hS1 hl
-- arrays
theorem j_iald {c0 N : Nat} {x x' NI : Int} (d : decode M.2.1 pc = .ok (.iaload, 1)) (hc : kd c0 = (0, N)) (hca : c0 < a) (hx : wr x = x') (hN : (N : Int) = NI) (h0 : 0 ≤ x') (h1 : x' < NI) (h : J X fx n mc ms M Q a cs ss (pc + 1) L (vi (gi G c0 x'.toNat) :: st) G) : J X fx n mc ms M Q a cs ss pc L (vi x :: rf X c0 :: st) G := by
  intro p l e' s m args below meth c C H locs ls hz hF hP hS hl
  subst hN
  have := h (l := l) (e := e') (below := below) C hz hF hP hS hl
  rw [gi, vi_wr] at this
  refine va_iald C.1 C.2.1 C.2.2.2.2.2.2.2.1 hP c0 0 (by rw [wsG_get hca, wE_I hc]) rfl (vp_inN hx h0 h1) d ?_
  rw [clampN hx]
  exact this
theorem j_bald {c0 N : Nat} {x x' NI : Int} (d : decode M.2.1 pc = .ok (.baload, 1)) (hc : kd c0 = (2, N)) (hca : c0 < a) (hx : wr x = x') (hN : (N : Int) = NI) (h0 : 0 ≤ x') (h1 : x' < NI) (h : J X fx n mc ms M Q a cs ss (pc + 1) L (vi (gi G c0 x'.toNat) :: st) G) : J X fx n mc ms M Q a cs ss pc L (vi x :: rf X c0 :: st) G := by
  intro p l e' s m args below meth c C H locs ls hz hF hP hS hl
  subst hN
  have := h (l := l) (e := e') (below := below) C hz hF hP hS hl
  rw [gi, vi_wr] at this
  refine va_bald C.1 C.2.1 C.2.2.2.2.2.2.2.1 hP c0 2 (by rw [wsG_get hca, wE_B hc]) rfl (vp_inN hx h0 h1) d ?_
  rw [clampN hx]
  exact this
theorem j_zald {c0 N : Nat} {x x' NI : Int} (d : decode M.2.1 pc = .ok (.baload, 1)) (hc : kd c0 = (3, N)) (hca : c0 < a) (hx : wr x = x') (hN : (N : Int) = NI) (h0 : 0 ≤ x') (h1 : x' < NI) (h : J X fx n mc ms M Q a cs ss (pc + 1) L (vi (gi G c0 x'.toNat) :: st) G) : J X fx n mc ms M Q a cs ss pc L (vi x :: rf X c0 :: st) G := by
  intro p l e' s m args below meth c C H locs ls hz hF hP hS hl
  subst hN
  have := h (l := l) (e := e') (below := below) C hz hF hP hS hl
  rw [gi, vi_wr] at this
  refine va_zald C.1 C.2.1 C.2.2.2.2.2.2.2.1 hP c0 3 (by rw [wsG_get hca, wE_Z hc]) rfl (vp_inN hx h0 h1) d ?_
  rw [clampN hx]
  exact this
theorem j_lald {c0 N : Nat} {x x' NI : Int} (d : decode M.2.1 pc = .ok (.laload, 1)) (hc : kd c0 = (1, N)) (hca : c0 < a) (hx : wr x = x') (hN : (N : Int) = NI) (h0 : 0 ≤ x') (h1 : x' < NI) (h : J X fx n mc ms M Q a cs ss (pc + 1) L (vl (gl G c0 x'.toNat) :: st) G) : J X fx n mc ms M Q a cs ss pc L (vi x :: rf X c0 :: st) G := by
  intro p l e' s m args below meth c C H locs ls hz hF hP hS hl
  subst hN
  have := h (l := l) (e := e') (below := below) C hz hF hP hS hl
  rw [gl, vl_wl] at this
  refine va_lald C.1 C.2.1 C.2.2.2.2.2.2.2.1 hP c0 1 (by rw [wsG_get hca, wE_J hc]) rfl (vp_inN hx h0 h1) d ?_
  rw [clampN hx]
  exact this
theorem j_aald {c0 N : Nat} {x x' NI : Int} (d : decode M.2.1 pc = .ok (.aaload, 1)) (hc : kd c0 = (4, N)) (hca : c0 < a) (hx : wr x = x') (hN : (N : Int) = NI) (h0 : 0 ≤ x') (h1 : x' < NI) (hq : gp G c0 x'.toNat ≠ 0) (h : J X fx n mc ms M Q a cs ss (pc + 1) L (rf X (gp G c0 x'.toNat) :: st) G) : J X fx n mc ms M Q a cs ss pc L (vi x :: rf X c0 :: st) G := by
  intro p l e' s m args below meth c C H locs ls hz hF hP hS hl
  subst hN
  have := h (l := l) (e := e') (below := below) C hz hF hP hS hl
  rw [← pv_rf hq] at this
  refine va_aldq C.1 C.2.1 C.2.2.2.2.2.2.2.1 hP c0 4 (by rw [wsG_get hca, wE_L hc]) rfl (vp_inN hx h0 h1) d ?_
  rw [clampN hx]
  exact this
theorem j_iast {c0 N : Nat} {x x' v NI : Int} (d : decode M.2.1 pc = .ok (.iastore, 1)) (hc : kd c0 = (0, N)) (hca : c0 < a) (hx : wr x = x') (hN : (N : Int) = NI) (h0 : 0 ≤ x') (h1 : x' < NI) (h : J X fx n mc ms M Q a cs ss (pc + 1) L st (si G c0 x'.toNat v)) : J X fx n mc ms M Q a cs ss pc L (vi v :: vi x :: rf X c0 :: st) G := by
  intro p l e' s m args below meth c C H locs ls hz hF hP hS hl
  subst hN
  refine va_iast C.1 C.2.1 C.2.2.2.2.2.2.2.1 hP (wsG_D X a G) hS c0 0 (by rw [wsG_get hca, wE_I hc]) rfl (vp_inN hx h0 h1) d (fun H1 locs1 hP1 hD1 hS1 => ?_)
  rw [clampN hx, upd_si, ← wE_I hc, wsG_set rfl wE_si_ne] at hP1
  exact h C hz (WF_si hF hca) hP1 hS1 hl
theorem j_bast {c0 N : Nat} {x x' v NI : Int} (d : decode M.2.1 pc = .ok (.bastore, 1)) (hc : kd c0 = (2, N)) (hca : c0 < a) (hx : wr x = x') (hN : (N : Int) = NI) (h0 : 0 ≤ x') (h1 : x' < NI) (hv : vp_nar .byte (Int32.ofInt v) = Int32.ofInt v) (h : J X fx n mc ms M Q a cs ss (pc + 1) L st (si G c0 x'.toNat v)) : J X fx n mc ms M Q a cs ss pc L (vi v :: vi x :: rf X c0 :: st) G := by
  intro p l e' s m args below meth c C H locs ls hz hF hP hS hl
  subst hN
  refine va_bast C.1 C.2.1 C.2.2.2.2.2.2.2.1 hP (wsG_D X a G) hS c0 2 (by rw [wsG_get hca, wE_B hc]) rfl (vp_inN hx h0 h1) d (fun H1 locs1 hP1 hD1 hS1 => ?_)
  rw [clampN hx, hv, upd_si, ← wE_B hc, wsG_set rfl wE_si_ne] at hP1
  exact h C hz (WF_si hF hca) hP1 hS1 hl
theorem j_zast {c0 N : Nat} {x x' v v' NI : Int} (d : decode M.2.1 pc = .ok (.bastore, 1)) (hc : kd c0 = (3, N)) (hca : c0 < a) (hx : wr x = x') (hN : (N : Int) = NI) (h0 : 0 ≤ x') (h1 : x' < NI) (hv : wr v = v') (hb : v' = 0 ∨ v' = 1) (h : J X fx n mc ms M Q a cs ss (pc + 1) L st (si G c0 x'.toNat v)) : J X fx n mc ms M Q a cs ss pc L (vi v :: vi x :: rf X c0 :: st) G := by
  intro p l e' s m args below meth c C H locs ls hz hF hP hS hl
  subst hN
  refine va_zast C.1 C.2.1 C.2.2.2.2.2.2.2.1 hP (wsG_D X a G) hS c0 3 (by rw [wsG_get hca, wE_Z hc]) rfl (vp_inN hx h0 h1) d (fun H1 locs1 hP1 hD1 hS1 => ?_)
  rw [clampN hx, nar_z hv hb, upd_si, ← wE_Z hc, wsG_set rfl wE_si_ne] at hP1
  exact h C hz (WF_si hF hca) hP1 hS1 hl
theorem j_last {c0 N : Nat} {x x' v NI : Int} (d : decode M.2.1 pc = .ok (.lastore, 1)) (hc : kd c0 = (1, N)) (hca : c0 < a) (hx : wr x = x') (hN : (N : Int) = NI) (h0 : 0 ≤ x') (h1 : x' < NI) (h : J X fx n mc ms M Q a cs ss (pc + 1) L st (sl G c0 x'.toNat v)) : J X fx n mc ms M Q a cs ss pc L (vl v :: vi x :: rf X c0 :: st) G := by
  intro p l e' s m args below meth c C H locs ls hz hF hP hS hl
  subst hN
  refine va_last C.1 C.2.1 C.2.2.2.2.2.2.2.1 hP (wsG_D X a G) hS c0 1 (by rw [wsG_get hca, wE_J hc]) rfl (vp_inN hx h0 h1) d (fun H1 locs1 hP1 hD1 hS1 => ?_)
  rw [clampN hx, upd_sl, ← wE_J hc, wsG_set rfl wE_sl_ne] at hP1
  exact h C hz (WF_sl hF hca) hP1 hS1 hl
theorem law_kd {c : Nat} (h : lawC c = true) : kd c = (11 + 5, 10) ∧ c < NC ∧ c ≠ 0 := by
  unfold lawC at h
  simp only [Bool.or_eq_true, beq_iff_eq] at h
  rcases h with (((h | h) | h) | h) | h <;> subst h <;> decide
theorem j_aast {c0 N v : Nat} {x x' NI : Int} (d : decode M.2.1 pc = .ok (.aastore, 1)) (hc : kd c0 = (4, N)) (hca : c0 < a) (hx : wr x = x') (hN : (N : Int) = NI) (h0 : 0 ≤ x') (h1 : x' < NI) (hv : lawC v = true) (hva : v < a) (hfx : fx = false ∨ ∀ q ∈ fixL, q.1 ≠ c0) (h : J X fx n mc ms M Q a cs ss (pc + 1) L st (sp G c0 x'.toNat v)) : J X fx n mc ms M Q a cs ss pc L (rf X v :: vi x :: rf X c0 :: st) G := by
  intro p l e' s m args below meth c C H locs ls hz hF hP hS hl
  subst hN
  obtain ⟨g1, g2, g3⟩ := law_kd hv
  refine va_astq C.1 C.2.1 C.2.2.2.2.2.2.2.1 hP (wsG_D X a G) hS c0 4 v 11 (r := (R_Law, F_Law, 10)) (by rw [wsG_get hca, wE_L hc]) rfl (by rw [wsG_get hva, wE_o g1]) rfl (vp_inN hx h0 h1) d (fun H1 locs1 hP1 hD1 hS1 => ?_)
  rw [clampN hx, upd_sp g3, ← wE_L hc, wsG_set rfl wE_sp_ne] at hP1
  refine h C hz (WF_sp hF hca (hfx.imp_right (fun h q hq e => h q hq e.1))) hP1 hS1 hl
theorem i32_nat (k : Nat) : Int32.ofNat k = Int32.ofInt (k : Int) := by
  apply Int32.toBitVec.inj
  simp [Int32.ofNat, Int32.ofInt]
theorem j_alenI {c0 N : Nat} {NI : Int} (d : decode M.2.1 pc = .ok (.arraylength, 1)) (hc : kd c0 = (0, N)) (hca : c0 < a) (hN : (N : Int) = NI) (h : J X fx n mc ms M Q a cs ss (pc + 1) L (vi NI :: st) G) : J X fx n mc ms M Q a cs ss pc L (rf X c0 :: st) G := by
  intro p l e' s m args below meth c C H locs ls hz hF hP hS hl
  subst hN
  exact va_alen C.1 C.2.1 C.2.2.2.2.2.2.2.1 hP c0 0 (by rw [wsG_get hca, wE_I hc]) rfl (i32_nat N) d (h C hz hF hP hS hl)
-- ends
theorem j_vret (d : decode M.2.1 pc = .ok (.return_, 1)) (hr : M.2.2.2 = none) (hc : cs = mc) (hs : ss = ms) (h : Q none a G) : J X fx n mc ms M Q a cs ss pc L [] G := by
  intro p l e' s m args below meth c C H locs ls hz hF hP hS hl
  subst hc; subst hs
  exact W.vret C.1 C.2.1 (C.2.2.1.trans hr) (fun t ht hW => ⟨none, a, G, rfl, h, hz, hF, by rw [ht]; exact hP, hS.F ht⟩) hS.2.2 d C.2.2.2.1
theorem j_iret {x x' : Int} (d : decode M.2.1 pc = .ok (.ireturn, 1)) (hr : M.2.2.2 = some .int) (hx : wr x = x') (hc : cs = mc) (hs : ss = ms) (h : Q (some (vi x')) a G) : J X fx n mc ms M Q a cs ss pc L [vi x] G := by
  intro p l e' s m args below meth c C H locs ls hz hF hP hS hl
  subst hc; subst hs
  rw [vi_eq hx]
  exact W.iret C.1 C.2.1 (C.2.2.1.trans hr) (fun t ht hW => ⟨some (vi x'), a, G, rfl, h, hz, hF, by rw [ht]; exact hP, hS.F ht⟩) hS.2.2 d C.2.2.2.1
theorem j_zret {x x' : Int} {ty : FieldType} (d : decode M.2.1 pc = .ok (.ireturn, 1)) (hr : M.2.2.2 = some ty) (hx : wr x = x') (hn : narrow ty (vi x') = vi x') (hc : cs = mc) (hs : ss = ms) (h : Q (some (vi x')) a G) : J X fx n mc ms M Q a cs ss pc L [vi x] G := by
  intro p l e' s m args below meth c C H locs ls hz hF hP hS hl
  subst hc; subst hs
  rw [vi_eq hx]
  exact W.zret C.1 C.2.1 (C.2.2.1.trans hr) hn (fun t ht hW => ⟨some (vi x'), a, G, rfl, h, hz, hF, by rw [ht]; exact hP, hS.F ht⟩) hS.2.2 d C.2.2.2.1
theorem nz_01 {x : Int} (h : x = 0 ∨ x = 1) : narrow .boolean (vi x) = vi x := by rcases h with h | h <;> subst h <;> decide
theorem j_lret {x x' : Int} (d : decode M.2.1 pc = .ok (.lreturn, 1)) (hr : M.2.2.2 = some .long) (hx : wl x = x') (hc : cs = mc) (hs : ss = ms) (h : Q (some (vl x')) a G) : J X fx n mc ms M Q a cs ss pc L [vl x] G := by
  intro p l e' s m args below meth c C H locs ls hz hF hP hS hl
  subst hc; subst hs
  rw [vl_eq hx]
  exact W.lret C.1 C.2.1 (C.2.2.1.trans hr) (fun t ht hW => ⟨some (vl x'), a, G, rfl, h, hz, hF, by rw [ht]; exact hP, hS.F ht⟩) hS.2.2 d C.2.2.2.1
theorem j_aret {q : Nat} {D : String} (d : decode M.2.1 pc = .ok (.areturn, 1)) (hr : M.2.2.2 = some (.object D)) (hc : cs = mc) (hs : ss = ms) (h : Q (some (rf X q)) a G) : J X fx n mc ms M Q a cs ss pc L [rf X q] G := by
  intro p l e' s m args below meth c C H locs ls hz hF hP hS hl
  subst hc; subst hs
  exact W.aret C.1 C.2.1 (C.2.2.1.trans hr) (Or.inl ⟨_, rfl⟩) (Or.inr ⟨_, rfl⟩) (fun t ht hW => ⟨some (rf X q), a, G, rfl, h, hz, hF, by rw [ht]; exact hP, hS.F ht⟩) hS.2.2 d C.2.2.2.1
end JR3
