/-! rows that make cells -/
theorem wsG_succ {X : XT} {a : Nat} {G : GS} : wsG X (a + 1) G = wsG X a G ++ [(X.1 + a, wE X G a)] := by simp [wsG, List.range_succ]
theorem ZG_succ {a : Nat} {G : GS} (h : ZG a G) : ZG (a + 1) G := fun c hc k => h c (by omega) k
def dfl (ci j : Nat) : Value := if ft ci j = 0 then vi 0 else if ft ci j = 1 then vl 0 else .null
theorem fV_zero {X : XT} {a ci j : Nat} {G : GS} (h : ZG a G) : fV X G a ci j = dfl ci j := by
  obtain ⟨h1, h2, h3⟩ := h a (Nat.le_refl _) j
  unfold fV dfl
  rw [h1, h2, h3]
  rfl
theorem new_addr {X : XT} {a cs : Nat} {G : GS} {p : Program} {l : Launch} {e : Env} {R : Room} {s : State} {m : MethodId} {args : Array Value} {below : List Frame} {meth : Method} {c : Code} {T : State} {locs : List Loc} {ss q : Nat} {H : Heap} {x : va_E}
    (hz : s.heap.size + cs = X.1 + a) (hP : va_P X.2.1 clsL (wsG X a G ++ [(q, x)]) H) (hD : va_D (foot X) (wsG X a G ++ [(q, x)])) (hT : T.heap = H) (Xs : Stand p l e R s m args below meth c T locs (cs + 1) ss) : q = X.1 + a := by
  have hlen : (wsG X a G).length = a := by simp [wsG]
  have h1 := Xs.heapSize
  rw [hT] at h1
  have hg : (wsG X a G ++ [(q, x)])[a]? = some (q, x) := by
    rw [List.getElem?_append_right (by omega), hlen]
    simp
  have h2 := (hP a _ hg).lt
  have h3 : X.1 ≤ q := hD.2 a _ hg
  simp only at h2
  by_cases hq : q = X.1 + a
  · exact hq
  · exfalso
    have hk : q - X.1 < a := by omega
    have hg2 : (wsG X a G ++ [(q, x)])[q - X.1]? = some (X.1 + (q - X.1), wE X G (q - X.1)) := by
      rw [List.getElem?_append_left (by omega), wsG_get hk]
    have := hD.1 (q - X.1) a _ _ hg2 hg (by simp only; omega)
    omega
section JN
variable {X : XT} {n mc ms : Nat} {M : MI} {Q : Option Value → Nat → GS → Prop} {a cs ss pc : Nat} {L : List (Nat × Value)} {st : List Value} {G : GS}
theorem j_new {own C : String} {T : u_T} {ty : Nat → FieldType} {idx ci N : Nat} (hown : M.1.cls = own) (hok : ClsOK ci C T N ty) (hdef : ∀ j, j < N → defaultValue (ty j) = dfl ci j) (hcl : Cond.classLink own idx C ∈ TS) (hins : Cond.instantiable C N ∈ TS) (hini : Cond.initialized C ∈ TS) (hk : kd a = (ci + 5, N)) (hc : cs + 1 ≤ mc) (hs : ss + N ≤ ms) (d : decode M.2.1 pc = .ok (.new idx, 3)) (h : J X false n mc ms M Q (a + 1) (cs + 1) (ss + N) (pc + 3) L (rf X a :: st) G) : J X false n mc ms M Q a cs ss pc L st G := by
  intro p l e s m args below meth c C0 H locs ls hz hF hP hS hl
  obtain ⟨q1, q2, q3, q4, q5⟩ := hok
  subst hown
  have hts := C0.2.2.2.2.2.2.1
  refine va_new (fs := (List.range N).map (fV X G a ci)) C0.1 C0.2.1 hts q2 ty q3 C0.2.2.2.2.2.1 (hts _ hcl) (hts _ hins) (hts _ hini) C0.2.2.2.2.2.2.2.1 hP (wsG_D X a G) hS (foot_ge C0.2.2.2.2.2.2.2.2.2.2) q1 ?_ hc hs d (fun q H1 hP1 hD1 hS1 => ?_)
  · intro j hj
    rw [hdef j hj, vp_V, List.getD_eq_getElem?_getD, List.getElem?_map, List.getElem?_range hj]
    exact (fV_zero hF.1).symm
  · intro T1 hT1 X1
    have hq := new_addr hz hP1 hD1 hT1 X1
    subst hq
    rw [← wE_o hk, ← wsG_succ] at hP1
    exact h C0 (by omega) ⟨ZG_succ hF.1, fun q => by cases q⟩ hP1 hS1 hl T1 hT1 X1
theorem j_newA {at0 : ArrayType} {τ : FieldType} {t0 N : Nat} {x x' : Int} {cI : ClassId} {a0 : vp_A} (hτ : newarray.typeOf at0 = τ) (ht : (tysX X)[t0]? = some (cI, τ)) (hra : ∀ (U : State) (c : ClassId), va_RA U c τ → U.vm.findClass ("[" ++ τ.toString) = some c) (hw : Cond.arrayClass τ ∈ TS) (ha : ∀ cA : ClassId, vp_cell cA a0 = arrV cA N (fun _ => defaultValue τ)) (hE : ZG a G → wE X G a = .inl (cI, a0)) (hx : wr x = x') (hN : x' = (N : Int)) (hb : N * componentBytes τ ≤ 536870912) (hc : cs + 1 ≤ mc) (hs : ss + N ≤ ms) (d : decode M.2.1 pc = .ok (.newarray at0, 2)) (h : J X false n mc ms M Q (a + 1) (cs + 1) (ss + N) (pc + 2) L (rf X a :: st) G) : J X false n mc ms M Q a cs ss pc L (vi x :: st) G := by
  intro p l e s m args below meth c C0 H locs ls hz hF hP hS hl
  have hts := C0.2.2.2.2.2.2.1
  have hK := C0.2.2.2.2.2.2.2.1
  subst hτ
  refine va_newa C0.1 C0.2.1 (hts _ hw) rfl hK hP (wsG_D X a G) hS (foot_ge C0.2.2.2.2.2.2.2.2.2.2) ha (fun z => by have := (c_lt0 hx).mp z; omega) (by rw [clampN hx, hN]; exact Int.toNat_natCast N) hb hc hs d (fun q cA H1 hK1 hP1 hD1 hS1 => ?_)
  have e1 := hra s cA (hK1.2 5 (cA, newarray.typeOf at0) rfl).2
  have e2 := hra s cI (hK.2 t0 _ ht).2
  have e3 : cA = cI := Option.some.inj (e1.symm.trans e2)
  subst e3
  intro T1 hT1 X1
  have hq := new_addr hz hP1 hD1 hT1 X1
  subst hq
  rw [← hE hF.1, ← wsG_succ] at hP1
  exact h C0 (by omega) ⟨ZG_succ hF.1, fun q => by cases q⟩ hP1 hS1 hl T1 hT1 X1
theorem z_I {a N : Nat} (hk : kd a = (0, N)) (h : ZG a G) : wE X G a = .inl (X.2.2.1.1, (N, .inl (fun _ => 0))) := by
  rw [wE_I hk]
  have : (fun j => Int32.ofInt (G.1 a j)) = fun _ => 0 := by funext j; rw [(h a (Nat.le_refl _) j).1]; exact i32z
  rw [this]
theorem z_B {a N : Nat} (hk : kd a = (2, N)) (h : ZG a G) : wE X G a = .inl (X.2.2.1.2.2.1, (N, .inl (fun _ => 0))) := by
  rw [wE_B hk]
  have : (fun j => Int32.ofInt (G.1 a j)) = fun _ => 0 := by funext j; rw [(h a (Nat.le_refl _) j).1]; exact i32z
  rw [this]
theorem z_Z {a N : Nat} (hk : kd a = (3, N)) (h : ZG a G) : wE X G a = .inl (X.2.2.1.2.2.2.1, (N, .inl (fun _ => 0))) := by
  rw [wE_Z hk]
  have : (fun j => Int32.ofInt (G.1 a j)) = fun _ => 0 := by funext j; rw [(h a (Nat.le_refl _) j).1]; exact i32z
  rw [this]
theorem z_J {a N : Nat} (hk : kd a = (1, N)) (h : ZG a G) : wE X G a = .inl (X.2.2.1.2.1, (N, .inr (.inl (fun _ => 0)))) := by
  rw [wE_J hk]
  have : (fun j => Int64.ofInt (G.2.1 a j)) = fun _ => 0 := by funext j; rw [(h a (Nat.le_refl _) j).2.1]; rfl
  rw [this]
theorem j_newI {N : Nat} {x x' : Int} (hk : kd a = (0, N)) (hw : Cond.arrayClass .int ∈ TS) (hx : wr x = x') (hN : x' = (N : Int)) (hb : N * 4 ≤ 536870912) (hc : cs + 1 ≤ mc) (hs : ss + N ≤ ms) (d : decode M.2.1 pc = .ok (.newarray .int, 2)) (h : J X false n mc ms M Q (a + 1) (cs + 1) (ss + N) (pc + 2) L (rf X a :: st) G) : J X false n mc ms M Q a cs ss pc L (vi x :: st) G :=
  j_newA (at0 := .int) (τ := .int) (t0 := 0) rfl rfl (fun _ _ h => h) hw (fun _ => rfl) (z_I hk) hx hN hb hc hs d h
theorem j_newB {N : Nat} {x x' : Int} (hk : kd a = (2, N)) (hw : Cond.arrayClass .byte ∈ TS) (hx : wr x = x') (hN : x' = (N : Int)) (hb : N * 1 ≤ 536870912) (hc : cs + 1 ≤ mc) (hs : ss + N ≤ ms) (d : decode M.2.1 pc = .ok (.newarray .byte, 2)) (h : J X false n mc ms M Q (a + 1) (cs + 1) (ss + N) (pc + 2) L (rf X a :: st) G) : J X false n mc ms M Q a cs ss pc L (vi x :: st) G :=
  j_newA (at0 := .byte) (τ := .byte) (t0 := 2) rfl rfl (fun _ _ h => h) hw (fun _ => rfl) (z_B hk) hx hN hb hc hs d h
theorem j_newZ {N : Nat} {x x' : Int} (hk : kd a = (3, N)) (hw : Cond.arrayClass .boolean ∈ TS) (hx : wr x = x') (hN : x' = (N : Int)) (hb : N * 1 ≤ 536870912) (hc : cs + 1 ≤ mc) (hs : ss + N ≤ ms) (d : decode M.2.1 pc = .ok (.newarray .boolean, 2)) (h : J X false n mc ms M Q (a + 1) (cs + 1) (ss + N) (pc + 2) L (rf X a :: st) G) : J X false n mc ms M Q a cs ss pc L (vi x :: st) G :=
  j_newA (at0 := .boolean) (τ := .boolean) (t0 := 3) rfl rfl (fun _ _ h => h) hw (fun _ => rfl) (z_Z hk) hx hN hb hc hs d h
theorem j_newJ {N : Nat} {x x' : Int} (hk : kd a = (1, N)) (hw : Cond.arrayClass .long ∈ TS) (hx : wr x = x') (hN : x' = (N : Int)) (hb : N * 8 ≤ 536870912) (hc : cs + 1 ≤ mc) (hs : ss + N ≤ ms) (d : decode M.2.1 pc = .ok (.newarray .long, 2)) (h : J X false n mc ms M Q (a + 1) (cs + 1) (ss + N) (pc + 2) L (rf X a :: st) G) : J X false n mc ms M Q a cs ss pc L (vi x :: st) G :=
  j_newA (at0 := .long) (τ := .long) (t0 := 1) rfl rfl (fun _ _ h => h) hw (fun _ => rfl) (z_J hk) hx hN hb hc hs d h
theorem j_anew {own : String} {idx N : Nat} {x x' : Int} (hown : M.1.cls = own) (hcl : Cond.classLink own idx "InquestHall$Law" ∈ TS) (hk : kd a = (4, N)) (hx : wr x = x') (hN : x' = (N : Int)) (hb : N * 4 ≤ 536870912) (hc : cs + 1 ≤ mc) (hs : ss + N ≤ ms) (d : decode M.2.1 pc = .ok (.anewarray idx, 3)) (h : J X false n mc ms M Q (a + 1) (cs + 1) (ss + N) (pc + 3) L (rf X a :: st) G) : J X false n mc ms M Q a cs ss pc L (vi x :: st) G := by
  intro p l e s m args below meth c C0 H locs ls hz hF hP hS hl
  have hts := C0.2.2.2.2.2.2.1
  have hK := C0.2.2.2.2.2.2.2.1
  subst hown
  refine va_newq C0.1 C0.2.1 C0.2.2.2.2.2.1 (hts _ hcl) C0.2.2.2.2.2.2.2.2.1.2.2.2.2.2 hK hP (wsG_D X a G) hS (foot_ge C0.2.2.2.2.2.2.2.2.2.2) (fun z => by have := (c_lt0 hx).mp z; omega) (by rw [clampN hx, hN]; exact Int.toNat_natCast N) hb hc hs d (fun q cA H1 hK1 hP1 hD1 hS1 => ?_)
  obtain ⟨_, _, _, _, _, e1⟩ := (hK1.2 5 (cA, .object "InquestHall$Law") rfl).2
  obtain ⟨_, _, _, _, _, e2⟩ := (hK.2 4 (X.2.2.1.2.2.2.2, .object "InquestHall$Law") rfl).2
  have e3 : cA = X.2.2.1.2.2.2.2 := Option.some.inj (e1.symm.trans e2)
  subst e3
  intro T1 hT1 X1
  have hq := new_addr hz hP1 hD1 hT1 X1
  subst hq
  have hE : wE X G a = .inl (X.2.2.1.2.2.2.2, (N, .inr (.inr (.inr (.inr (fun _ => none)))))) := by
    rw [wE_L hk]
    have : (fun j => po X (G.2.2 a j)) = fun _ => none := by funext j; rw [(hF.1 a (Nat.le_refl _) j).2.2]; rfl
    rw [this]
  rw [← hE, ← wsG_succ] at hP1
  exact h C0 (by omega) ⟨ZG_succ hF.1, fun q => by cases q⟩ hP1 hS1 hl T1 hT1 X1
/-- a private constructor of a nest mate -/
theorem j_callIN {own host : String} {idx kk n' mc' ms' c0 : Nat} {M' : MI} {As st0 : List Value} {Q' : Option Value → Nat → GS → Prop} (hown : M.1.cls = own) (hl0 : (own, idx, M'.1, host) ∈ nestL) (hM : IOK M' kk) (hn : n' + 1 ≤ n) (hmc : cs + mc' ≤ mc ∧ ss + ms' ≤ ms) (hlen : As.length = kk) (hst : st0 = As.reverse ++ rf X c0 :: st) (hstk : (st.map fun v => v.category).sum ≤ 8)
    (hC : Call X false n' mc' ms' M' (rf X c0 :: As) a G Q') (d : decode M.2.1 pc = .ok (.invokespecial idx, 3))
    (k : ∀ (v : Option Value) (a' : Nat) (G' : GS), Q' v a' G' → J X false n mc ms M Q a' (cs + mc') (ss + ms') (pc + 3) L (v.toList ++ st) G') : J X false n mc ms M Q a cs ss pc L st0 G := by
  intro p l e s m args below meth c C H locs ls hz hF hP hS hl T0 hT0 X0
  have hsz : H.size = X.1 + a := heap_size hz C.2.2.2.2.2.2.2.2.2.2 hP hS hT0 X0
  obtain ⟨m1, m2, mr, m3, m4, m5, m6, m7⟩ := hM
  subst hown
  have hts := C.2.2.2.2.2.2.1
  have hcw : wsM M' = Cond.code M'.1 M'.2.1 M'.2.2.1 none :: TS := by rw [← mr]; rfl
  have cw : va_CN (rm n mc ms) s args M.1.cls idx M'.1 host M'.2.1 M'.2.2.1 none (wsM M') (rm n' mc' ms') mc' ms' As.length ∧ M'.1.name = "<init>" ∧ (Cond.instanceMethod M'.1).before args s = true := by
    refine ⟨va_cnB As.length hts (good_wsM m4) hcw rfl rfl (C.2.2.2.2.2.2.2.2.1.2.2.2.2.1 _ hl0) (hts _ m3) ⟨m5.1, m5.2.1, by rw [hlen]; exact m6⟩ ⟨hn, ?_⟩, m2, hts _ m1⟩
    show 8 + (M'.2.2.1 + 11) + 40 * (n' + 1) ≤ 40 * (n + 1); omega
  exact j_run (av := rf X c0 :: As) C hz hsz hS hl (va_runIN (As := As) (rest := st) ⟨C.1, C.2.1, C.2.2.2.2.1, C.2.2.2.2.2.1, hts⟩ (hC l) cw ⟨blind_Wd, fun U hU hW => ⟨rfl, by rw [hU]; exact hsz, hF, by rw [hU]; exact hP, va_K.moved hW.alike C.2.2.2.2.2.2.2.1, C.2.2.2.2.2.2.2.2.1.at hS hU hW⟩⟩ rfl rfl hl.1 hst (lv_room hstk) d hmc) k T0 hT0 X0
end JN
/-- a contract over stores whose references are known, used where they are known by counting -/
theorem Call.noFx {X : XT} {n mc ms : Nat} {M : MI} {av : List Value} {a : Nat} {G : GS} {Q : Option Value → Nat → GS → Prop} (hG : FX G) (h : Call X true n mc ms M av a G Q) : Call X false n mc ms M av a G Q := by
  intro l
  exact MetFree.mono (h l) (fun _ _ h => ⟨h.1, h.2.1, ⟨h.2.2.1.1, fun _ => hG⟩, h.2.2.2⟩) (fun _ _ _ _ _ h => h) (fun a s o s' _ hq => ⟨by
    obtain ⟨⟨v, a', G', e1, e2, e3, e4, e5⟩, -⟩ := hq
    exact ⟨v, a', G', e1, e2, e3, ⟨e4.1, fun q => by cases q⟩, e5⟩, hq.2⟩)
