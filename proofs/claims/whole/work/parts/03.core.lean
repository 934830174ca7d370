/-! the judgement J over a store of whole numbers, and a row an instruction -/
def vi (x : Int) : Value := .int (Int32.ofInt x)
def vl (x : Int) : Value := .long (Int64.ofInt x)
def wr (x : Int) : Int := (Int32.ofInt x).toInt
def wl (x : Int) : Int := (Int64.ofInt x).toInt
abbrev GS : Type := (Nat → Nat → Int) × (Nat → Nat → Int) × (Nat → Nat → Nat)
def gi (G : GS) (c k : Nat) : Int := wr (G.1 c k)
def gl (G : GS) (c k : Nat) : Int := wl (G.2.1 c k)
def gp (G : GS) (c k : Nat) : Nat := G.2.2 c k
def si (G : GS) (c k : Nat) (v : Int) : GS := (fun i j => if i = c ∧ j = k then v else G.1 i j, G.2.1, G.2.2)
def sl (G : GS) (c k : Nat) (v : Int) : GS := (G.1, fun i j => if i = c ∧ j = k then v else G.2.1 i j, G.2.2)
def sp (G : GS) (c k : Nat) (v : Nat) : GS := (G.1, G.2.1, fun i j => if i = c ∧ j = k then v else G.2.2 i j)
abbrev XT : Type := Nat × va_G × (ClassId × ClassId × ClassId × ClassId × ClassId) × (Nat → Nat) × (Nat → Nat)
def rf (X : XT) (k : Nat) : Value := .ref (X.1 + k)
def sr (X : XT) (i : Nat) : Value := .ref (X.2.2.2.1 i)
def po (X : XT) (q : Nat) : Option Nat := if q = 0 then none else some (X.1 + q)
def pv (X : XT) (q : Nat) : Value := va_rf (po X q)
def tysX (X : XT) : List (ClassId × FieldType) := [(X.2.2.1.1, .int), (X.2.2.1.2.1, .long), (X.2.2.1.2.2.1, .byte), (X.2.2.1.2.2.2.1, .boolean), (X.2.2.1.2.2.2.2, .object "InquestHall$Law")]
def fV (X : XT) (G : GS) (k t j : Nat) : Value := if ft t j = 0 then vi (G.1 k j) else if ft t j = 1 then vl (G.2.1 k j) else pv X (G.2.2 k j)
def wE (X : XT) (G : GS) (k : Nat) : va_E :=
  if (kd k).1 = 0 then .inl (X.2.2.1.1, ((kd k).2, .inl (fun j => Int32.ofInt (G.1 k j))))
  else if (kd k).1 = 1 then .inl (X.2.2.1.2.1, ((kd k).2, .inr (.inl (fun j => Int64.ofInt (G.2.1 k j)))))
  else if (kd k).1 = 2 then .inl (X.2.2.1.2.2.1, ((kd k).2, .inl (fun j => Int32.ofInt (G.1 k j))))
  else if (kd k).1 = 3 then .inl (X.2.2.1.2.2.2.1, ((kd k).2, .inl (fun j => Int32.ofInt (G.1 k j))))
  else if (kd k).1 = 4 then .inl (X.2.2.1.2.2.2.2, ((kd k).2, .inr (.inr (.inr (.inr (fun j => po X (G.2.2 k j)))))))
  else .inr ((kd k).1 - 5, (List.range (kd k).2).map (fV X G k ((kd k).1 - 5)))
def wsG (X : XT) (a : Nat) (G : GS) : va_W := (List.range a).map (fun k => (X.1 + k, wE X G k))
def foot (X : XT) : Nat → Prop := fun q => X.1 ≤ q
def ZG (a : Nat) (G : GS) : Prop := ∀ c, a ≤ c → ∀ k, G.1 c k = 0 ∧ G.2.1 c k = 0 ∧ G.2.2 c k = 0
def FX (G : GS) : Prop := ∀ q ∈ fixL, G.2.2 q.1 q.2.1 = q.2.2
def WF (fx : Bool) (a : Nat) (G : GS) : Prop := ZG a G ∧ (fx = true → FX G)
def StrOK (X : XT) (s : State) : Prop := (∀ i : Nat, i < 37 → vk_S 1 [lenS.getD i 0] [bytS.getD i []] (fun _ => X.2.2.2.1 i) (fun _ => X.2.2.2.2 i) (foot X) s s.heap) ∧ (∀ (i : Nat) (q : String × Nat × String), strL[i]? = some q → vk_R q.1 q.2.1 q.2.2 (X.2.2.2.1 i) s) ∧ va_Z "java/lang/String" "COMPACT_STRINGS" "Z" (.int 1) (foot X) s s.heap ∧ va_Zq "jdk/internal/util/Preconditions" "SIOOBE_FORMATTER" "Ljava/util/function/BiFunction;" (foot X) s s.heap ∧ (∀ q ∈ nestL, va_Nw (.methodLinkNest q.1 q.2.1 q.2.2.1 q.2.2.2) s) ∧ va_AO "InquestHall$Law" s
abbrev MI : Type := MethodName × ByteArray × Nat × Option FieldType
def Cx (X : XT) (M : MI) (p : Program) (s : State) (m : MethodId) (args : Array Value) (meth : Method) (c : Code) : Prop :=
  p.tables.exec = Jvm.exec ∧ c.code = M.2.1 ∧ meth.sig.returnType = M.2.2.2 ∧ meth.locks = false ∧ c.maxLocals = M.2.2.1 ∧ s.vm.findClass M.1.cls = some m.cls ∧ (∀ w ∈ TS, w.before args s = true) ∧ va_K X.2.1 clsL (tysX X) s ∧ StrOK X s ∧ meth.name = M.1.name ∧ X.1 ≤ s.heap.size
def Qx (X : XT) (fx : Bool) (mc : Nat) (Q : Option Value → Nat → GS → Prop) : Array Value → State → Outcome → State → Prop := fun _ st oc t => ∃ (v : Option Value) (a' : Nat) (G' : GS), oc = .returned v ∧ Q v a' G' ∧ st.heap.size + mc = X.1 + a' ∧ WF fx a' G' ∧ va_P X.2.1 clsL (wsG X a' G') t.heap ∧ va_F (foot X) st t
def rm (n mc ms : Nat) : Room := { frames := n, cells := mc, slots := ms, locals := 40 * (n + 1) }
def J (X : XT) (fx : Bool) (n mc ms : Nat) (M : MI) (Q : Option Value → Nat → GS → Prop) (a cs ss pc : Nat) (L : List (Nat × Value)) (st : List Value) (G : GS) : Prop :=
  ∀ ⦃p : Program⦄ ⦃l : Launch⦄ ⦃e : Env⦄ ⦃s : State⦄ ⦃m : MethodId⦄ ⦃args : Array Value⦄ ⦃below : List Frame⦄ ⦃meth : Method⦄ ⦃c : Code⦄, Cx X M p s m args meth c → ∀ ⦃H : Heap⦄ ⦃locs : List Loc⦄ ⦃ls : Array Slot⦄, s.heap.size + cs = X.1 + a → WF fx a G → va_P X.2.1 clsL (wsG X a G) H → va_S (foot X) s.heap H locs → lv_has ls M.2.2.1 L →
    W p l e (rm n mc ms) s m args below meth c H locs cs ss (MQ below (Qx X fx mc Q) args s mc ms (foot X)) (F0 m pc ls st)
def Wd (X : XT) (fx : Bool) (a : Nat) (G : GS) (U : State) : Prop := U.heap.size = X.1 + a ∧ WF fx a G ∧ va_P X.2.1 clsL (wsG X a G) U.heap ∧ va_K X.2.1 clsL (tysX X) U ∧ StrOK X U
def wsM (M : MI) : List Cond := .code M.1 M.2.1 M.2.2.1 M.2.2.2 :: TS
def Call (X : XT) (fx : Bool) (n mc ms : Nat) (M : MI) (av : List Value) (a : Nat) (G : GS) (Q : Option Value → Nat → GS → Prop) : Prop :=
  ∀ l : Launch, Met l M.1 (wsM M) (rm n mc ms) (va_Pc av (Wd X fx a G)) (Qx X fx mc Q) mc ms (foot X)
-- numbers
theorem wr_wr (x : Int) : wr (wr x) = wr x := by simp [wr]
theorem wl_wl (x : Int) : wl (wl x) = wl x := by simp [wl]
theorem wr_gi (G : GS) (c k : Nat) : wr (gi G c k) = gi G c k := wr_wr _
theorem wl_gl (G : GS) (c k : Nat) : wl (gl G c k) = gl G c k := wl_wl _
theorem i32_wr (x : Int) : Int32.ofInt (wr x) = Int32.ofInt x := Int32.ofInt_toInt _
theorem i64_wl (x : Int) : Int64.ofInt (wl x) = Int64.ofInt x := Int64.ofInt_toInt _
theorem vi_wr (x : Int) : vi (wr x) = vi x := by rw [vi, i32_wr, vi]
theorem vl_wl (x : Int) : vl (wl x) = vl x := by rw [vl, i64_wl, vl]
theorem vi_eq {x y : Int} (h : wr x = y) : vi x = vi y := by rw [← h, vi_wr]
theorem vl_eq {x y : Int} (h : wl x = y) : vl x = vl y := by rw [← h, vl_wl]
theorem wr_of {x : Int} (h1 : -2147483648 ≤ x) (h2 : x < 2147483648) : wr x = x := by
  unfold wr
  rw [Int32.toInt_ofInt_of_le (by simpa using h1) (by simpa using h2)]
theorem wl_of {x : Int} (h1 : -9223372036854775808 ≤ x) (h2 : x < 9223372036854775808) : wl x = x := by
  unfold wl
  rw [Int64.toInt_ofInt_of_le (by simpa using h1) (by simpa using h2)]
theorem i32_toInt (x : Int32) : vi x.toInt = .int x := by simp [vi]
-- the store's cells
theorem wsG_get {X : XT} {a : Nat} {G : GS} {k : Nat} (h : k < a) : (wsG X a G)[k]? = some (X.1 + k, wE X G k) := by simp [wsG, h]
theorem wsG_D (X : XT) (a : Nat) (G : GS) : va_D (foot X) (wsG X a G) := by
  have key : ∀ (i : Nat) (p : Nat × va_E), (wsG X a G)[i]? = some p → p.1 = X.1 + i := by
    intro i p h
    by_cases hi : i < a
    · rw [wsG_get hi] at h; cases h; rfl
    · simp [wsG, hi] at h
  refine ⟨fun i j p q hi hj e => ?_, fun k q hk => ?_⟩
  · have := key i p hi; have := key j q hj; omega
  · have := key k q hk; show X.1 ≤ q.1; omega
theorem wsG_set {X : XT} {a : Nat} {G G' : GS} {k : Nat} {e : va_E} (h : wE X G' k = e) (ho : ∀ j, j ≠ k → wE X G' j = wE X G j) : (wsG X a G).set k (X.1 + k, e) = wsG X a G' := by
  apply List.ext_getElem?
  intro j
  rw [List.getElem?_set]
  by_cases hj : j < a
  · by_cases hk : k = j
    · subst hk; simp [wsG, hj, h]
    · simp [wsG, hj, hk, ho j (Ne.symm hk)]
  · by_cases hk : k = j
    · subst hk; simp [wsG, hj]
    · simp [wsG, hj, hk]
theorem wE_congr {X : XT} {G G' : GS} {k : Nat} (h1 : G'.1 k = G.1 k) (h2 : G'.2.1 k = G.2.1 k) (h3 : G'.2.2 k = G.2.2 k) : wE X G' k = wE X G k := by
  have : fV X G' k = fV X G k := by funext t j; simp [fV, h1, h2, h3]
  simp only [wE, h1, h2, h3, this]
theorem si_ne {G : GS} {c k j : Nat} {v : Int} (h : j ≠ c) : (si G c k v).1 j = G.1 j := by funext i; simp [si, h]
theorem sl_ne {G : GS} {c k j : Nat} {v : Int} (h : j ≠ c) : (sl G c k v).2.1 j = G.2.1 j := by funext i; simp [sl, h]
theorem sp_ne {G : GS} {c k j : Nat} {v : Nat} (h : j ≠ c) : (sp G c k v).2.2 j = G.2.2 j := by funext i; simp [sp, h]
theorem wE_si_ne {X : XT} {G : GS} {c k : Nat} {v : Int} : ∀ j, j ≠ c → wE X (si G c k v) j = wE X G j := fun j h => wE_congr (si_ne h) rfl rfl
theorem wE_sl_ne {X : XT} {G : GS} {c k : Nat} {v : Int} : ∀ j, j ≠ c → wE X (sl G c k v) j = wE X G j := fun j h => wE_congr rfl (sl_ne h) rfl
theorem wE_sp_ne {X : XT} {G : GS} {c k : Nat} {v : Nat} : ∀ j, j ≠ c → wE X (sp G c k v) j = wE X G j := fun j h => wE_congr rfl rfl (sp_ne h)
theorem wE_o {X : XT} {G : GS} {c ci N : Nat} (h : kd c = (ci + 5, N)) : wE X G c = .inr (ci, (List.range N).map (fV X G c ci)) := by
  simp only [wE, h]
  rw [if_neg (by omega), if_neg (by omega), if_neg (by omega), if_neg (by omega), if_neg (by omega), Nat.add_sub_cancel]
theorem wE_I {X : XT} {G : GS} {c N : Nat} (h : kd c = (0, N)) : wE X G c = .inl (X.2.2.1.1, (N, .inl (fun j => Int32.ofInt (G.1 c j)))) := by simp [wE, h]
theorem wE_J {X : XT} {G : GS} {c N : Nat} (h : kd c = (1, N)) : wE X G c = .inl (X.2.2.1.2.1, (N, .inr (.inl (fun j => Int64.ofInt (G.2.1 c j))))) := by simp [wE, h]
theorem wE_B {X : XT} {G : GS} {c N : Nat} (h : kd c = (2, N)) : wE X G c = .inl (X.2.2.1.2.2.1, (N, .inl (fun j => Int32.ofInt (G.1 c j)))) := by simp [wE, h]
theorem wE_Z {X : XT} {G : GS} {c N : Nat} (h : kd c = (3, N)) : wE X G c = .inl (X.2.2.1.2.2.2.1, (N, .inl (fun j => Int32.ofInt (G.1 c j)))) := by simp [wE, h]
theorem wE_L {X : XT} {G : GS} {c N : Nat} (h : kd c = (4, N)) : wE X G c = .inl (X.2.2.1.2.2.2.2, (N, .inr (.inr (.inr (.inr (fun j => po X (G.2.2 c j))))))) := by simp [wE, h]
theorem fs_set {X : XT} {G G' : GS} {c ci N k : Nat} {v : Value} (hk : fV X G' c ci k = v) (ho : ∀ j, j ≠ k → fV X G' c ci j = fV X G c ci j) : ((List.range N).map (fV X G c ci)).set k v = (List.range N).map (fV X G' c ci) := by
  apply List.ext_getElem?
  intro j
  rw [List.getElem?_set]
  by_cases hj : j < N
  · by_cases e : k = j
    · subst e; simp [hj, hk]
    · simp [hj, e, ho j (Ne.symm e)]
  · by_cases e : k = j
    · subst e; simp [hj]
    · simp [hj, e]
theorem fixL_lt : ∀ q ∈ fixL, q.1 < NC := by decide +kernel
theorem ZG_si {a : Nat} {G : GS} {c k : Nat} {v : Int} (h : ZG a G) (hc : c < a) : ZG a (si G c k v) := fun i hi j => by
  have := h i hi j
  have hne : i ≠ c := by omega
  simpa [si, hne] using this
theorem ZG_sl {a : Nat} {G : GS} {c k : Nat} {v : Int} (h : ZG a G) (hc : c < a) : ZG a (sl G c k v) := fun i hi j => by
  have := h i hi j
  have hne : i ≠ c := by omega
  simpa [sl, hne] using this
theorem ZG_sp {a : Nat} {G : GS} {c k : Nat} {v : Nat} (h : ZG a G) (hc : c < a) : ZG a (sp G c k v) := fun i hi j => by
  have := h i hi j
  have hne : i ≠ c := by omega
  simpa [sp, hne] using this
theorem WF_si {fx : Bool} {a : Nat} {G : GS} {c k : Nat} {v : Int} (h : WF fx a G) (hc : c < a) : WF fx a (si G c k v) := ⟨ZG_si h.1 hc, h.2⟩
theorem WF_sl {fx : Bool} {a : Nat} {G : GS} {c k : Nat} {v : Int} (h : WF fx a G) (hc : c < a) : WF fx a (sl G c k v) := ⟨ZG_sl h.1 hc, h.2⟩
theorem WF_sp {fx : Bool} {a : Nat} {G : GS} {c k : Nat} {v : Nat} (h : WF fx a G) (hc : c < a) (hf : fx = false ∨ ∀ q ∈ fixL, ¬ (q.1 = c ∧ q.2.1 = k)) : WF fx a (sp G c k v) := ⟨ZG_sp h.1 hc, fun e => by
  rcases hf with hf | hf
  · rw [hf] at e; cases e
  · intro q hq
    have := h.2 e q hq
    simpa [sp, hf q hq] using this⟩
theorem foot_ge {X : XT} {s : State} (h : X.1 ≤ s.heap.size) : ∀ q, s.heap.size ≤ q → foot X q := fun q hq => Nat.le_trans h hq
-- strings at a later state
theorem StrOK.at {X : XT} {s U : State} {H : Heap} {locs : List Loc} (h : StrOK X s) (hS : va_S (foot X) s.heap H locs) (hU : U.heap = H) (hW : s.WarmedH U.vm) : StrOK X U := by
  obtain ⟨h1, h2, h3, h4, h5, h6⟩ := h
  subst hU
  refine ⟨fun i hi => vk_S.moved hW.alike ((h1 i hi).kept hS.2.1), fun i q hq => (h2 i q hq).warm hW, va_Z.moved hW.alike (h3.kept hS.2.1), va_Zq.moved hW.alike (h4.kept hS.2.1), fun q hq => (h5 q hq).warmM hW, h6.moved hW.alike⟩
theorem StrOK.same {X : XT} {s U : State} (h : StrOK X s) (hv : U.vm = s.vm) (hh : U.heap = s.heap) : StrOK X U := by
  obtain ⟨h1, h2, h3, h4, h5, h6⟩ := h
  have ha : s.vm.Alike U.vm := by rw [hv]; exact Vm.Alike.refl _
  refine ⟨?_, fun i q hq => (h2 i q hq).same hv, ?_, ?_, fun q hq => (h5 q hq).same rfl hv.symm, h6.moved ha⟩
  · intro i hi; rw [hh]; exact vk_S.moved ha (h1 i hi)
  · rw [hh]; exact va_Z.moved ha h3
  · rw [hh]; exact va_Zq.moved ha h4
-- the rows
section JR
variable {X : XT} {fx : Bool} {n mc ms : Nat} {M : MI} {Q : Option Value → Nat → GS → Prop} {a cs ss pc : Nat} {L : List (Nat × Value)} {st : List Value} {G : GS}
theorem j_st {st st' : List Value} (e : st = st') (h : J X fx n mc ms M Q a cs ss pc L st' G) : J X fx n mc ms M Q a cs ss pc L st G := e ▸ h
theorem j_iconst {i v : Int} (d : decode M.2.1 pc = .ok (.iconst i, 1)) (e : i = v) (h : J X fx n mc ms M Q a cs ss (pc + 1) L (vi v :: st) G) : J X fx n mc ms M Q a cs ss pc L st G := by
  intro p l e' s m args below meth c C H locs ls hz hF hP hS hl
  subst e
  exact lv_iconst C.1 C.2.1 d rfl (h C hz hF hP hS hl)
theorem j_bipush {i v : Int} (d : decode M.2.1 pc = .ok (.bipush i, 2)) (e : (Int8.ofInt i).toInt32 = Int32.ofInt v) (h : J X fx n mc ms M Q a cs ss (pc + 2) L (vi v :: st) G) : J X fx n mc ms M Q a cs ss pc L st G := by
  intro p l e' s m args below meth c C H locs ls hz hF hP hS hl
  exact lv_bipush C.1 C.2.1 d e (h C hz hF hP hS hl)
theorem j_sipush {i v : Int} (d : decode M.2.1 pc = .ok (.sipush i, 3)) (e : (Int16.ofInt i).toInt32 = Int32.ofInt v) (h : J X fx n mc ms M Q a cs ss (pc + 3) L (vi v :: st) G) : J X fx n mc ms M Q a cs ss pc L st G := by
  intro p l e' s m args below meth c C H locs ls hz hF hP hS hl
  exact lv_sipush C.1 C.2.1 d e (h C hz hF hP hS hl)
theorem j_ldc {own : String} {idx : Nat} {w : Int32} {v : Int} (hown : M.1.cls = own) (hc : Cond.constant own idx w ∈ TS) (e : w = Int32.ofInt v) (d : decode M.2.1 pc = .ok (.ldc idx, 2)) (h : J X fx n mc ms M Q a cs ss (pc + 2) L (vi v :: st) G) : J X fx n mc ms M Q a cs ss pc L st G := by
  intro p l e' s m args below meth c C H locs ls hz hF hP hS hl
  subst hown; subst e
  exact lv_ldc C.1 C.2.1 C.2.2.2.2.2.1 (C.2.2.2.2.2.2.1 _ hc) d (h C hz hF hP hS hl)
theorem j_ldcw {own : String} {idx : Nat} {w : Int32} {v : Int} (hown : M.1.cls = own) (hc : Cond.constant own idx w ∈ TS) (e : w = Int32.ofInt v) (d : decode M.2.1 pc = .ok (.ldc_w idx, 3)) (h : J X fx n mc ms M Q a cs ss (pc + 3) L (vi v :: st) G) : J X fx n mc ms M Q a cs ss pc L st G := by
  intro p l e' s m args below meth c C H locs ls hz hF hP hS hl
  subst hown; subst e
  exact lv_ldcw C.1 C.2.1 C.2.2.2.2.2.1 (C.2.2.2.2.2.2.1 _ hc) d (h C hz hF hP hS hl)
theorem j_ldc2 {own : String} {idx : Nat} {w : Int64} {v : Int} (hown : M.1.cls = own) (hc : Cond.constantLong own idx w ∈ TS) (e : w = Int64.ofInt v) (d : decode M.2.1 pc = .ok (.ldc2_w idx, 3)) (h : J X fx n mc ms M Q a cs ss (pc + 3) L (vl v :: st) G) : J X fx n mc ms M Q a cs ss pc L st G := by
  intro p l e' s m args below meth c C H locs ls hz hF hP hS hl
  subst hown; subst e
  exact lv_ldc2 C.1 C.2.1 C.2.2.2.2.2.1 (C.2.2.2.2.2.2.1 _ hc) d (h C hz hF hP hS hl)
theorem j_lconst {k : Fin 2} {v : Int} (d : decode M.2.1 pc = .ok (.lconst k, 1)) (e : Int64.ofNat (k : Nat) = Int64.ofInt v) (h : J X fx n mc ms M Q a cs ss (pc + 1) L (vl v :: st) G) : J X fx n mc ms M Q a cs ss pc L st G := by
  intro p l e' s m args below meth c C H locs ls hz hF hP hS hl
  exact lv_lconst C.1 C.2.1 d e (h C hz hF hP hS hl)
theorem j_iload {i k : Nat} {x : Int} (d : decode M.2.1 pc = .ok (.iload i, 2)) (hk : L[k]? = some (i, vi x)) (h : J X fx n mc ms M Q a cs ss (pc + 2) L (vi x :: st) G) : J X fx n mc ms M Q a cs ss pc L st G := by
  intro p l e' s m args below meth c C H locs ls hz hF hP hS hl
  exact lv_iload C.1 C.2.1 d (lv_at hl k hk) (h C hz hF hP hS hl)
theorem j_iloadn {j : Fin 4} {i k : Nat} {x : Int} (d : decode M.2.1 pc = .ok (.iload_n j, 1)) (hi : (j : Nat) = i) (hk : L[k]? = some (i, vi x)) (h : J X fx n mc ms M Q a cs ss (pc + 1) L (vi x :: st) G) : J X fx n mc ms M Q a cs ss pc L st G := by
  intro p l e' s m args below meth c C H locs ls hz hF hP hS hl
  exact lv_iload_n C.1 C.2.1 d hi (lv_at hl k hk) (h C hz hF hP hS hl)
theorem j_lload {i k : Nat} {x : Int} (d : decode M.2.1 pc = .ok (.lload i, 2)) (hk : L[k]? = some (i, vl x)) (h : J X fx n mc ms M Q a cs ss (pc + 2) L (vl x :: st) G) : J X fx n mc ms M Q a cs ss pc L st G := by
  intro p l e' s m args below meth c C H locs ls hz hF hP hS hl
  exact lv_lload C.1 C.2.1 d (lv_at hl k hk) (h C hz hF hP hS hl)
theorem j_lloadn {j : Fin 4} {i k : Nat} {x : Int} (d : decode M.2.1 pc = .ok (.lload_n j, 1)) (hi : (j : Nat) = i) (hk : L[k]? = some (i, vl x)) (h : J X fx n mc ms M Q a cs ss (pc + 1) L (vl x :: st) G) : J X fx n mc ms M Q a cs ss pc L st G := by
  intro p l e' s m args below meth c C H locs ls hz hF hP hS hl
  exact lv_lload_n C.1 C.2.1 d hi (lv_at hl k hk) (h C hz hF hP hS hl)
theorem j_aload {i k : Nat} {x : Nat} (d : decode M.2.1 pc = .ok (.aload i, 2)) (hk : L[k]? = some (i, .ref x)) (h : J X fx n mc ms M Q a cs ss (pc + 2) L (.ref x :: st) G) : J X fx n mc ms M Q a cs ss pc L st G := by
  intro p l e' s m args below meth c C H locs ls hz hF hP hS hl
  exact lv_aload C.1 C.2.1 d (lv_at hl k hk) (h C hz hF hP hS hl)
theorem j_aloadn {j : Fin 4} {i k : Nat} {x : Nat} (d : decode M.2.1 pc = .ok (.aload_n j, 1)) (hi : (j : Nat) = i) (hk : L[k]? = some (i, .ref x)) (h : J X fx n mc ms M Q a cs ss (pc + 1) L (.ref x :: st) G) : J X fx n mc ms M Q a cs ss pc L st G := by
  intro p l e' s m args below meth c C H locs ls hz hF hP hS hl
  exact lv_aload_n C.1 C.2.1 d hi (lv_at hl k hk) (h C hz hF hP hS hl)
theorem j_istore {i : Nat} {x x' : Int} {L' : List (Nat × Value)} (d : decode M.2.1 pc = .ok (.istore i, 2)) (hx : wr x = x') (hn : i < M.2.2.1) (hl' : (i, vi x') :: L.filter (fun q => !(q.1 == i) && !(q.1 + 1 == i && q.2.category == 2)) = L') (h : J X fx n mc ms M Q a cs ss (pc + 2) L' st G) : J X fx n mc ms M Q a cs ss pc L (vi x :: st) G := by
  intro p l e' s m args below meth c C H locs ls hz hF hP hS hl
  rw [vi_eq hx]
  exact lv_istore C.1 C.2.1 d hl hn hl' (fun ls' hl2 => h C hz hF hP hS hl2)
theorem j_istoren {j : Fin 4} {i : Nat} {x x' : Int} {L' : List (Nat × Value)} (d : decode M.2.1 pc = .ok (.istore_n j, 1)) (hi : (j : Nat) = i) (hx : wr x = x') (hn : i < M.2.2.1) (hl' : (i, vi x') :: L.filter (fun q => !(q.1 == i) && !(q.1 + 1 == i && q.2.category == 2)) = L') (h : J X fx n mc ms M Q a cs ss (pc + 1) L' st G) : J X fx n mc ms M Q a cs ss pc L (vi x :: st) G := by
  intro p l e' s m args below meth c C H locs ls hz hF hP hS hl
  rw [vi_eq hx]
  exact lv_istore_n C.1 C.2.1 d hi hl hn hl' (fun ls' hl2 => h C hz hF hP hS hl2)
theorem j_lstore {i : Nat} {x x' : Int} {L' : List (Nat × Value)} (d : decode M.2.1 pc = .ok (.lstore i, 2)) (hx : wl x = x') (hn : i + 1 < M.2.2.1) (hl' : (i, vl x') :: L.filter (fun q => !(q.1 == i) && (!(q.1 == i + 1) && !(q.1 + 1 == i && q.2.category == 2))) = L') (h : J X fx n mc ms M Q a cs ss (pc + 2) L' st G) : J X fx n mc ms M Q a cs ss pc L (vl x :: st) G := by
  intro p l e' s m args below meth c C H locs ls hz hF hP hS hl
  rw [vl_eq hx]
  exact lv_lstore C.1 C.2.1 d hl hn hl' (fun ls' hl2 => h C hz hF hP hS hl2)
theorem j_lstoren {j : Fin 4} {i : Nat} {x x' : Int} {L' : List (Nat × Value)} (d : decode M.2.1 pc = .ok (.lstore_n j, 1)) (hi : (j : Nat) = i) (hx : wl x = x') (hn : i + 1 < M.2.2.1) (hl' : (i, vl x') :: L.filter (fun q => !(q.1 == i) && (!(q.1 == i + 1) && !(q.1 + 1 == i && q.2.category == 2))) = L') (h : J X fx n mc ms M Q a cs ss (pc + 1) L' st G) : J X fx n mc ms M Q a cs ss pc L (vl x :: st) G := by
  intro p l e' s m args below meth c C H locs ls hz hF hP hS hl
  rw [vl_eq hx]
  exact lv_lstore_n C.1 C.2.1 d hi hl hn hl' (fun ls' hl2 => h C hz hF hP hS hl2)
theorem j_astore {i x : Nat} {L' : List (Nat × Value)} (d : decode M.2.1 pc = .ok (.astore i, 2)) (hn : i < M.2.2.1) (hl' : (i, Value.ref x) :: L.filter (fun q => !(q.1 == i) && !(q.1 + 1 == i && q.2.category == 2)) = L') (h : J X fx n mc ms M Q a cs ss (pc + 2) L' st G) : J X fx n mc ms M Q a cs ss pc L (.ref x :: st) G := by
  intro p l e' s m args below meth c C H locs ls hz hF hP hS hl
  exact lv_astore C.1 C.2.1 d hl hn hl' (fun ls' hl2 => h C hz hF hP hS hl2)
theorem j_astoren {j : Fin 4} {i x : Nat} {L' : List (Nat × Value)} (d : decode M.2.1 pc = .ok (.astore_n j, 1)) (hi : (j : Nat) = i) (hn : i < M.2.2.1) (hl' : (i, Value.ref x) :: L.filter (fun q => !(q.1 == i) && !(q.1 + 1 == i && q.2.category == 2)) = L') (h : J X fx n mc ms M Q a cs ss (pc + 1) L' st G) : J X fx n mc ms M Q a cs ss pc L (.ref x :: st) G := by
  intro p l e' s m args below meth c C H locs ls hz hF hP hS hl
  exact lv_astore_n C.1 C.2.1 d hi hl hn hl' (fun ls' hl2 => h C hz hF hP hS hl2)
theorem j_iinc {i k : Nat} {t x x' : Int} {L' : List (Nat × Value)} (d : decode M.2.1 pc = .ok (.iinc i t, 3)) (hk : L[k]? = some (i, vi x)) (hx : wr (x + t) = x') (hn : i < M.2.2.1) (hl' : (i, vi x') :: L.filter (fun q => !(q.1 == i) && !(q.1 + 1 == i && q.2.category == 2)) = L') (h : J X fx n mc ms M Q a cs ss (pc + 3) L' st G) : J X fx n mc ms M Q a cs ss pc L st G := by
  intro p l e' s m args below meth c C H locs ls hz hF hP hS hl
  refine lv_iinc (v := Int32.ofInt x') C.1 C.2.1 d hl hk ?_ hn hl' (fun ls' hl2 => h C hz hF hP hS hl2)
  rw [← hx, i32_wr, Int32.ofInt_add]
/-- fewer locals, in any order -/
theorem j_loc {L' : List (Nat × Value)} (ks : List Nat) (e : lv_pick L ks = L') (h : J X fx n mc ms M Q a cs ss pc L' st G) : J X fx n mc ms M Q a cs ss pc L st G := by
  intro p l e' s m args below meth c C H locs ls hz hF hP hS hl
  exact h C hz hF hP hS (lv_sub hl ks e)
theorem j_dup {v : Value} (d : decode M.2.1 pc = .ok (.dup, 1)) (hv : v.category = 1) (h : J X fx n mc ms M Q a cs ss (pc + 1) L (v :: v :: st) G) : J X fx n mc ms M Q a cs ss pc L (v :: st) G := by
  intro p l e' s m args below meth c C H locs ls hz hF hP hS hl
  exact lv_dup C.1 C.2.1 d hv (h C hz hF hP hS hl)
theorem j_dup2 {v w : Value} (d : decode M.2.1 pc = .ok (.dup2, 1)) (hv : v.category = 1) (hw : w.category = 1) (h : J X fx n mc ms M Q a cs ss (pc + 1) L (v :: w :: v :: w :: st) G) : J X fx n mc ms M Q a cs ss pc L (v :: w :: st) G := by
  intro p l e' s m args below meth c C H locs ls hz hF hP hS hl
  exact lv_dup2_11 C.1 C.2.1 d hv hw (h C hz hF hP hS hl)
theorem j_pop {v : Value} (d : decode M.2.1 pc = .ok (.pop, 1)) (hv : v.category = 1) (h : J X fx n mc ms M Q a cs ss (pc + 1) L st G) : J X fx n mc ms M Q a cs ss pc L (v :: st) G := by
  intro p l e' s m args below meth c C H locs ls hz hF hP hS hl
  exact lv_pop C.1 C.2.1 d hv (h C hz hF hP hS hl)
theorem j_iadd {x y : Int} (d : decode M.2.1 pc = .ok (.iadd, 1)) (h : J X fx n mc ms M Q a cs ss (pc + 1) L (vi (x + y) :: st) G) : J X fx n mc ms M Q a cs ss pc L (vi y :: vi x :: st) G := by
  intro p l e' s m args below meth c C H locs ls hz hF hP hS hl
  have := h (l := l) (e := e') (below := below) C hz hF hP hS hl
  rw [vi, Int32.ofInt_add] at this
  exact lv_iadd C.1 C.2.1 d this
theorem j_isub {x y : Int} (d : decode M.2.1 pc = .ok (.isub, 1)) (h : J X fx n mc ms M Q a cs ss (pc + 1) L (vi (x - y) :: st) G) : J X fx n mc ms M Q a cs ss pc L (vi y :: vi x :: st) G := by
  intro p l e' s m args below meth c C H locs ls hz hF hP hS hl
  have := h (l := l) (e := e') (below := below) C hz hF hP hS hl
  rw [vi, Int32.ofInt_sub] at this
  exact lv_isub C.1 C.2.1 d this
theorem j_imul {x y : Int} (d : decode M.2.1 pc = .ok (.imul, 1)) (h : J X fx n mc ms M Q a cs ss (pc + 1) L (vi (x * y) :: st) G) : J X fx n mc ms M Q a cs ss pc L (vi y :: vi x :: st) G := by
  intro p l e' s m args below meth c C H locs ls hz hF hP hS hl
  have := h (l := l) (e := e') (below := below) C hz hF hP hS hl
  rw [vi, Int32.ofInt_mul] at this
  exact lv_imul C.1 C.2.1 d this
theorem j_ineg {x : Int} (d : decode M.2.1 pc = .ok (.ineg, 1)) (h : J X fx n mc ms M Q a cs ss (pc + 1) L (vi (-x) :: st) G) : J X fx n mc ms M Q a cs ss pc L (vi x :: st) G := by
  intro p l e' s m args below meth c C H locs ls hz hF hP hS hl
  have := h (l := l) (e := e') (below := below) C hz hF hP hS hl
  rw [vi, Int32.ofInt_neg] at this
  exact lv_ineg C.1 C.2.1 d this
theorem j_ladd {x y : Int} (d : decode M.2.1 pc = .ok (.ladd, 1)) (h : J X fx n mc ms M Q a cs ss (pc + 1) L (vl (x + y) :: st) G) : J X fx n mc ms M Q a cs ss pc L (vl y :: vl x :: st) G := by
  intro p l e' s m args below meth c C H locs ls hz hF hP hS hl
  have := h (l := l) (e := e') (below := below) C hz hF hP hS hl
  rw [vl, Int64.ofInt_add] at this
  exact lv_ladd C.1 C.2.1 d this
theorem j_lsub {x y : Int} (d : decode M.2.1 pc = .ok (.lsub, 1)) (h : J X fx n mc ms M Q a cs ss (pc + 1) L (vl (x - y) :: st) G) : J X fx n mc ms M Q a cs ss pc L (vl y :: vl x :: st) G := by
  intro p l e' s m args below meth c C H locs ls hz hF hP hS hl
  have := h (l := l) (e := e') (below := below) C hz hF hP hS hl
  rw [vl, Int64.ofInt_sub] at this
  exact lv_lsub C.1 C.2.1 d this
theorem j_lmul {x y : Int} (d : decode M.2.1 pc = .ok (.lmul, 1)) (h : J X fx n mc ms M Q a cs ss (pc + 1) L (vl (x * y) :: st) G) : J X fx n mc ms M Q a cs ss pc L (vl y :: vl x :: st) G := by
  intro p l e' s m args below meth c C H locs ls hz hF hP hS hl
  have := h (l := l) (e := e') (below := below) C hz hF hP hS hl
  rw [vl, Int64.ofInt_mul] at this
  exact lv_lmul C.1 C.2.1 d this
end JR
