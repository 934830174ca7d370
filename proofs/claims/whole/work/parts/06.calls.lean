/-! calls, entries, new cells, text constants -/
theorem heap_size {X : XT} {a cs : Nat} {G : GS} {p : Program} {l : Launch} {e : Env} {R : Room} {s : State} {m : MethodId} {args : Array Value} {below : List Frame} {meth : Method} {c : Code} {T : State} {locs : List Loc} {ss : Nat} {A : Nat → Prop} {H : Heap}
    (hz : s.heap.size + cs = X.1 + a) (h0 : X.1 ≤ s.heap.size) (hP : va_P X.2.1 clsL (wsG X a G) H) (hS : va_S A s.heap H locs) (hT : T.heap = H) (Xs : Stand p l e R s m args below meth c T locs cs ss) : H.size = X.1 + a := by
  have h1 := Xs.heapSize
  rw [hT] at h1
  have h2 := hS.1
  cases a with
  | zero => omega
  | succ k =>
    have := (hP k _ (wsG_get (Nat.lt_succ_self k))).lt
    simp only at this
    omega
section JC
variable {X : XT} {fx : Bool} {n mc ms : Nat} {M : MI} {Q : Option Value → Nat → GS → Prop} {a cs ss pc : Nat} {L : List (Nat × Value)} {st : List Value} {G : GS}
theorem j_run {mc' ms' : Nat} {av st0 : List Value} {Q' : Option Value → Nat → GS → Prop} {p : Program} {l : Launch} {e : Env} {s : State} {m : MethodId} {args : Array Value} {below : List Frame} {meth : Method} {c : Code} (C : Cx X M p s m args meth c) {H : Heap} {locs : List Loc} {ls : Array Slot} (hz : s.heap.size + cs = X.1 + a) (hsz : H.size = X.1 + a) (hS : va_S (foot X) s.heap H locs) (hl : lv_has ls M.2.2.1 L)
    (hr : va_Run p l e (rm n mc ms) s m args below meth c H locs cs ss mc' ms' (F0 m pc ls st0) st (Qx X fx mc' Q' av.toArray) (foot X))
    (k : ∀ (v : Option Value) (a' : Nat) (G' : GS), Q' v a' G' → J X fx n mc ms M Q a' (cs + mc') (ss + ms') (pc + 3) L (v.toList ++ st) G') :
    W p l e (rm n mc ms) s m args below meth c H locs cs ss (MQ below (Qx X fx mc Q) args s mc ms (foot X)) (F0 m pc ls st0) := by
  intro T hT X0
  obtain ⟨v, st₀, t, T', Lc, h0, X', hLc, e1, e2, ⟨v2, a', G', ho, hQ, hs2, hwf, hP', hF'⟩, stp⟩ := hr T hT X0
  cases ho
  rw [h0] at hs2
  have hF' : H.size ≤ t.heap.size ∧ ∀ q : Nat, q < H.size → ¬ foot X q → t.heap[q]? = H[q]? := by
    have h5 := hF'
    unfold va_F at h5
    rwa [h0] at h5
  obtain ⟨t2, a1, b1⟩ := k v a' G' hQ (l := l) (e := e) (below := below) C (H := T'.heap) (locs := locs ++ Lc) (ls := ls) (by omega) hwf (by rw [e1]; exact hP')
    ⟨Nat.le_trans hS.1 (by rw [e1]; exact hF'.1), fun q h1 h2 => by rw [e1, hF'.2 q (Nat.lt_of_lt_of_le h1 hS.1) h2]; exact hS.2.1 q h1 h2, fun q hq => by
      rcases List.mem_append.mp hq with h | h
      · exact hS.2.2 q h
      · exact hLc q h⟩ hl T' rfl X'
  exact ⟨t2, stp t2 a1, b1⟩
theorem ws_ok {M' : MI} {s : State} {args : Array Value} (hts : ∀ w ∈ TS, w.before args s = true) (hc : Cond.code M'.1 M'.2.1 M'.2.2.1 M'.2.2.2 ∈ TS) : ∀ w ∈ wsM M', ∀ (a' : Array Value) (U : State), s.WarmedH U.vm → w.before a' U = true := fun w hw a' U hW => word_at hW (good_wsM hc w hw).2 (hts w (good_wsM hc w hw).1)
theorem len_ok {d : String} {k : Nat} (h : (parseMethodDescriptor d).map (fun d => d.parameters.length) = some k) : ∀ sig, parseMethodDescriptor d = some sig → k = sig.parameters.length := fun sig h2 => by
  rw [h2] at h; exact (Option.some.inj h).symm
theorem j_callV {own : String} {idx kk n' mc' ms' ci c0 N N' : Nat} {T : u_T} {M' : MI} {As st0 : List Value} {Q' : Option Value → Nat → GS → Prop} (hown : M.1.cls = own) (hl0 : Cond.methodLink own idx M'.1 ∈ TS) (hM : MOK M' kk) (hc : kd c0 = (ci + 5, N)) (hcl : clsL[ci]? = some (M'.1.cls, T, N')) (hca : c0 < a) (hn : n' + 1 ≤ n) (hmc : cs + mc' ≤ mc ∧ ss + ms' ≤ ms) (hlen : As.length = kk) (hst : st0 = As.reverse ++ rf X c0 :: st) (hstk : (st.map fun v => v.category).sum ≤ 8)
    (hC : Call X fx n' mc' ms' M' (rf X c0 :: As) a G Q') (d : decode M.2.1 pc = .ok (.invokevirtual idx, 3))
    (k : ∀ (v : Option Value) (a' : Nat) (G' : GS), Q' v a' G' → J X fx n mc ms M Q a' (cs + mc') (ss + ms') (pc + 3) L (v.toList ++ st) G') : J X fx n mc ms M Q a cs ss pc L st0 G := by
  intro p l e s m args below meth c C H locs ls hz hF hP hS hl T0 hT0 X0
  have hsz : H.size = X.1 + a := heap_size hz C.2.2.2.2.2.2.2.2.2.2 hP hS hT0 X0
  obtain ⟨m1, m2, m3, m4, m5, m6, m7⟩ := hM
  subst hown
  have hts := C.2.2.2.2.2.2.1
  have cw : CallW (rm n mc ms) s args M.1.cls M'.1.cls idx M'.1 M'.2.1 M'.2.2.1 M'.2.2.2 (wsM M') (rm n' mc' ms') mc' ms' As.length := by
    refine ⟨⟨rfl, rfl, hn, ?_, ws_ok hts m4, List.mem_cons_self, hts _ m4, hts _ m3, ⟨m5.1, m5.2.1⟩, ?_, hts _ hl0⟩, hts _ m1, hts _ m2⟩
    · show 8 + (M'.2.2.1 + 11) + 40 * (n' + 1) ≤ 40 * (n + 1); omega
    · rw [hlen]; exact len_ok m6
  have hrecv : ∃ cell : Cell, H[X.1 + c0]? = some cell ∧ cell.vm.isStatics = false ∧ s.vm.findClass M'.1.cls = some cell.cls := va_recv (q := (M'.1.cls, T, N')) C.2.2.2.2.2.2.2.1 hP hcl (by rw [wsG_get hca, wE_o hc])
  refine j_run (av := rf X c0 :: As) C hz hsz hS hl (va_runV (As := As) (rest := st) ⟨C.1, C.2.1, C.2.2.2.2.1, C.2.2.2.2.2.1, hts⟩ (hC l) cw ⟨blind_Wd, hrecv, fun U hU hW => ⟨rfl, by rw [hU]; exact hsz, hF, by rw [hU]; exact hP, va_K.moved hW.alike C.2.2.2.2.2.2.2.1, C.2.2.2.2.2.2.2.2.1.at hS hU hW⟩⟩ rfl rfl hl.1 hst (lv_room hstk) d hmc) k T0 hT0 X0
theorem j_callS {own : String} {idx kk n' mc' ms' : Nat} {M' : MI} {As st0 : List Value} {Q' : Option Value → Nat → GS → Prop} (hown : M.1.cls = own) (hl0 : Cond.methodLink own idx M'.1 ∈ TS) (hM : SOK M' kk) (hn : n' + 1 ≤ n) (hmc : cs + mc' ≤ mc ∧ ss + ms' ≤ ms) (hlen : As.length = kk) (hst : st0 = As.reverse ++ st) (hstk : (st.map fun v => v.category).sum ≤ 8)
    (hC : Call X fx n' mc' ms' M' As a G Q') (d : decode M.2.1 pc = .ok (.invokestatic idx, 3))
    (k : ∀ (v : Option Value) (a' : Nat) (G' : GS), Q' v a' G' → J X fx n mc ms M Q a' (cs + mc') (ss + ms') (pc + 3) L (v.toList ++ st) G') : J X fx n mc ms M Q a cs ss pc L st0 G := by
  intro p l e s m args below meth c C H locs ls hz hF hP hS hl T0 hT0 X0
  have hsz : H.size = X.1 + a := heap_size hz C.2.2.2.2.2.2.2.2.2.2 hP hS hT0 X0
  obtain ⟨m1, m3, m4, m5, m6, m7⟩ := hM
  subst hown
  have hts := C.2.2.2.2.2.2.1
  have cw : CallB (rm n mc ms) s args M.1.cls idx M'.1 M'.2.1 M'.2.2.1 M'.2.2.2 (wsM M') (rm n' mc' ms') mc' ms' As.length ∧ (Cond.static M'.1).before args s = true := by
    refine ⟨⟨rfl, rfl, hn, ?_, ws_ok hts m4, List.mem_cons_self, hts _ m4, hts _ m3, ⟨m5.1, m5.2.1⟩, ?_, hts _ hl0⟩, hts _ m1⟩
    · show 8 + (M'.2.2.1 + 11) + 40 * (n' + 1) ≤ 40 * (n + 1); omega
    · rw [hlen]; exact len_ok m6
  refine j_run (av := As) C hz hsz hS hl (va_runS (As := As) (rest := st) ⟨C.1, C.2.1, C.2.2.2.2.1, C.2.2.2.2.2.1, hts⟩ (hC l) cw ⟨blind_Wd, fun U hU hW => ⟨rfl, by rw [hU]; exact hsz, hF, by rw [hU]; exact hP, va_K.moved hW.alike C.2.2.2.2.2.2.2.1, C.2.2.2.2.2.2.2.2.1.at hS hU hW⟩⟩ rfl rfl hl.1 hst (lv_room hstk) d hmc) k T0 hT0 X0
/-- a constructor -/
theorem j_callI {own : String} {idx kk n' mc' ms' c0 : Nat} {M' : MI} {As st0 : List Value} {Q' : Option Value → Nat → GS → Prop} (hown : M.1.cls = own) (hl0 : Cond.methodLink own idx M'.1 ∈ TS) (hM : IOK M' kk) (hn : n' + 1 ≤ n) (hmc : cs + mc' ≤ mc ∧ ss + ms' ≤ ms) (hlen : As.length = kk) (hst : st0 = As.reverse ++ rf X c0 :: st) (hstk : (st.map fun v => v.category).sum ≤ 8)
    (hC : Call X fx n' mc' ms' M' (rf X c0 :: As) a G Q') (d : decode M.2.1 pc = .ok (.invokespecial idx, 3))
    (k : ∀ (v : Option Value) (a' : Nat) (G' : GS), Q' v a' G' → J X fx n mc ms M Q a' (cs + mc') (ss + ms') (pc + 3) L (v.toList ++ st) G') : J X fx n mc ms M Q a cs ss pc L st0 G := by
  intro p l e s m args below meth c C H locs ls hz hF hP hS hl T0 hT0 X0
  have hsz : H.size = X.1 + a := heap_size hz C.2.2.2.2.2.2.2.2.2.2 hP hS hT0 X0
  obtain ⟨m1, m2, mr, m3, m4, m5, m6, m7⟩ := hM
  subst hown
  have hts := C.2.2.2.2.2.2.1
  have cw : CallB (rm n mc ms) s args M.1.cls idx M'.1 M'.2.1 M'.2.2.1 none (wsM M') (rm n' mc' ms') mc' ms' As.length ∧ M'.1.name = "<init>" ∧ (Cond.instanceMethod M'.1).before args s = true := by
    refine ⟨⟨rfl, rfl, hn, ?_, ws_ok hts m4, by rw [← mr]; exact List.mem_cons_self, by rw [← mr]; exact hts _ m4, hts _ m3, ⟨m5.1, m5.2.1⟩, ?_, hts _ hl0⟩, m2, hts _ m1⟩
    · show 8 + (M'.2.2.1 + 11) + 40 * (n' + 1) ≤ 40 * (n + 1); omega
    · rw [hlen]; exact len_ok m6
  refine j_run (av := rf X c0 :: As) C hz hsz hS hl (va_runI (As := As) (rest := st) ⟨C.1, C.2.1, C.2.2.2.2.1, C.2.2.2.2.2.1, hts⟩ (hC l) cw ⟨blind_Wd, fun U hU hW => ⟨rfl, by rw [hU]; exact hsz, hF, by rw [hU]; exact hP, va_K.moved hW.alike C.2.2.2.2.2.2.2.1, C.2.2.2.2.2.2.2.2.1.at hS hU hW⟩⟩ rfl rfl hl.1 hst (lv_room hstk) d hmc) k T0 hT0 X0
/-- Object's own constructor -/
theorem j_objI {own : String} {idx c0 : Nat} (hown : M.1.cls = own) (hl0 : Cond.methodLink own idx Lib.objectInit ∈ TS) (hi : Cond.instanceMethod Lib.objectInit ∈ TS) (hcd : Cond.code Lib.objectInit ⟨#[0xb1]⟩ 1 none ∈ TS) (hn : 1 ≤ n) (hstk : (st.map fun v => v.category).sum ≤ 8) (d : decode M.2.1 pc = .ok (.invokespecial idx, 3)) (h : J X fx n mc ms M Q a cs ss (pc + 3) L st G) : J X fx n mc ms M Q a cs ss pc L (rf X c0 :: st) G := by
  intro p l e s m args below meth c C H locs ls hz hF hP hS hl
  subst hown
  have hts := C.2.2.2.2.2.2.1
  exact W.objInit C.1 C.2.1 C.2.2.2.2.2.1 (hts _ hl0) (hts _ hi) (hts _ hcd) rfl (by rw [C.2.2.2.2.1]; exact hl.1) rfl d hn (by show 0 + _ + 12 ≤ 40 * (n + 1); omega) (h C hz hF hP hS hl)
theorem Call_of_J {av : List Value} (hcode : Cond.code M.1 M.2.1 M.2.2.1 M.2.2.2 ∈ TS) (hpl : plainName M.1.cls = true) (hlen : (lg_sl av).length ≤ M.2.2.1) (h : J X fx n mc ms M Q a 0 0 0 (lv_args 0 av) [] G) : Call X fx n mc ms M av a G Q := by
  intro l
  refine Met.ofW (cc := M.2.1) (maxL := M.2.2.1) (ret := M.2.2.2) (ws' := TS) hpl rfl ?_
  intro p e s m args below meth c s₁ B hml hv
  obtain ⟨rfl, hsz, hF, hP, hK, hSt⟩ := hv
  have hts : ∀ w ∈ TS, w.before av.toArray s = true := fun w hw => atoms_spec (ws := wsM M) B.pre w (List.mem_cons_of_mem _ hw)
  rw [lg_entry_eq]
  exact h ⟨B.exec, B.bytes, B.returns, B.notSynchronized, hml, findClass_of_methodNamed B.named, hts, hK, hSt, (name_of_methodNamed B.named B.method).1, by omega⟩ hsz hF hP va_S.rf (lv_entry av hlen)
theorem Call.mono {av : List Value} {Q' : Option Value → Nat → GS → Prop} (h : Call X fx n mc ms M av a G Q) (hq2 : ∀ v a' G', Q v a' G' → Q' v a' G') : Call X fx n mc ms M av a G Q' := by
  intro l
  exact MetFree.mono (h l) (fun _ _ h => h) (fun _ _ _ _ _ h => h) (fun a s o s' _ hq => ⟨by
    obtain ⟨⟨v, a', G', e1, e2, e3⟩, -⟩ := hq
    exact ⟨v, a', G', e1, hq2 _ _ _ e2, e3⟩, hq.2⟩)
end JC
