def R_law : String := "InquestHallLaw"
def lw_P (b : Addr) (xs : List Int32) (args : Array Value) (s : State) : Prop := args = #[.ref b] ∧ s.IntsAt b xs ∧ xs.length ≤ 3072 ∧ (Jvm.Cond.and given_1 narrow_1).before args s = true
def lw_Q (_ : Array Value) (s : State) (o : Outcome) (t : State) : Prop := o = .returned (some (.int 1)) ∧ Framed s o t [] 600000 7302250
def lw_Z (below : List Frame) (a : Array Value) (s : State) : State → Prop := fun t => ∃ o, t.status = .running ∧ Ended t below o ∧ lw_Q a s o t
/-- the law's own end, with 1 on the stack, nothing written that was there before, its room as the claim has it -/
theorem lw_ret {p : Program} {l : Launch} {e : Env} {s : State} {m : MethodId} {below : List Frame} {meth : Method} {c : Code} {b : Nat} (hx : p.tables.exec = Jvm.exec) (hb : c.code = code) (hr : meth.sig.returnType = ret) (hlocks : meth.locks = false) {pc : Nat} {H : Heap} {ls : Array Slot} (hdg : decode code pc = .ok (.ireturn, 1)) : W p l e room_1 s m #[Value.ref b] below meth c H [] 600000 7302250 (lw_Z below #[Value.ref b] s) (F0 m pc ls [.int 1]) := by
  intro T hT X
  obtain ⟨fs, hret, hrun, hended, hW, hframe⟩ := X.leave (v := some (.int 1)) (hlocks := hlocks) (fun h => by rw [hr] at h; cases h)
  have hmeth' : T.vm.method? m = some meth := X.method'
  refine ⟨T.setFrames fs, ?_, .returned (some (.int 1)), hrun, hended, rfl, ⟨_, rfl⟩, hW, hframe⟩
  jvm_step X.here [X.here.top, hx, hb, hdg, hmeth', hr, ret, narrow_b1]
  (try refine ⟨rfl, ?_⟩); (try refine ⟨rfl, ?_⟩)
  first | (intro acts; rw [hret _ acts rfl rfl rfl]) | rw [hret _ _ rfl rfl rfl]
  exact Steps.refl _
/-- what holds at the law's entry: the machine, the code, the tables' words (any of lw_tbl by 'hts w (by decide +kernel)'), the script of L ints xs at the cell b, what the Statement gives of the start (any of its parts by flat_of_before) -/
def lw_At (p : Program) (s : State) (m : MethodId) (meth : Method) (c : Code) (b L : Nat) (xs : Nat → Int32) : Prop :=
  p.tables.exec = Jvm.exec ∧ c.code = code ∧ meth.sig.returnType = ret ∧ c.maxLocals = 4 ∧ s.vm.findClass R_law = some m.cls ∧ (∀ w ∈ lw_tbl, w.before #[Value.ref b] s = true) ∧ va_X b L xs s s.heap ∧ b < s.heap.size ∧ meth.locks = false ∧ (Jvm.Cond.and given_1 narrow_1).before #[Value.ref b] s = true
/-! the law's own walk: rows -/
def LC (X : XT) (p : Program) (s : State) (m : MethodId) (meth : Method) (c : Code) (b L : Nat) (xs : Nat → Int32) : Prop :=
  p.tables.exec = Jvm.exec ∧ c.code = code ∧ meth.sig.returnType = ret ∧ c.maxLocals = 4 ∧ s.vm.findClass "InquestHallLaw" = some m.cls ∧ (∀ w ∈ TS, w.before #[Value.ref b] s = true) ∧ va_K X.2.1 clsL (tysX X) s ∧ StrOK X s ∧ va_X b L xs s s.heap ∧ b < s.heap.size ∧ meth.locks = false ∧ X.1 = s.heap.size
def JL (X : XT) (b N : Nat) (xs : Nat → Int32) (fx : Bool) (a cs ss pc : Nat) (L : List (Nat × Value)) (st : List Value) (G : GS) : Prop :=
  ∀ ⦃p : Program⦄ ⦃l : Launch⦄ ⦃e : Env⦄ ⦃s : State⦄ ⦃m : MethodId⦄ ⦃below : List Frame⦄ ⦃meth : Method⦄ ⦃c : Code⦄, LC X p s m meth c b N xs → ∀ ⦃H : Heap⦄ ⦃locs : List Loc⦄ ⦃ls : Array Slot⦄, s.heap.size + cs = X.1 + a → WF fx a G → va_P X.2.1 clsL (wsG X a G) H → va_S (foot X) s.heap H locs → lv_has ls 4 L →
    W p l e room_1 s m #[Value.ref b] below meth c H locs cs ss (lw_Z below #[Value.ref b] s) (F0 m pc ls st)
def sc (xs : Nat → Int32) (k : Nat) : Int := (xs k).toInt
theorem wr_sc (xs : Nat → Int32) (k : Nat) : wr (sc xs k) = sc xs k := wr_t _
theorem lc_self (x : Int) : lc x x = 0 := by
  unfold lc lg_cmp
  rw [if_neg (by intro h; rw [gt_iff_lt, Int64.lt_iff_toInt_lt] at h; omega), if_pos rfl]
  rfl
section JLR
variable {X : XT} {b N : Nat} {xs : Nat → Int32} {fx : Bool} {a cs ss pc : Nat} {L : List (Nat × Value)} {st : List Value} {G : GS}
theorem l_iconst {i v : Int} (d : decode code pc = .ok (.iconst i, 1)) (e : i = v) (h : JL X b N xs fx a cs ss (pc + 1) L (vi v :: st) G) : JL X b N xs fx a cs ss pc L st G := by
  intro p l e' s m below meth c C H locs ls hz hF hP hS hl
  subst e
  exact lv_iconst C.1 C.2.1 d rfl (h C hz hF hP hS hl)
theorem l_bipush {i v : Int} (d : decode code pc = .ok (.bipush i, 2)) (e : (Int8.ofInt i).toInt32 = Int32.ofInt v) (h : JL X b N xs fx a cs ss (pc + 2) L (vi v :: st) G) : JL X b N xs fx a cs ss pc L st G := by
  intro p l e' s m below meth c C H locs ls hz hF hP hS hl
  exact lv_bipush C.1 C.2.1 d e (h C hz hF hP hS hl)
theorem l_iloadn {j : Fin 4} {i k : Nat} {x : Int} (d : decode code pc = .ok (.iload_n j, 1)) (hi : (j : Nat) = i) (hk : L[k]? = some (i, vi x)) (h : JL X b N xs fx a cs ss (pc + 1) L (vi x :: st) G) : JL X b N xs fx a cs ss pc L st G := by
  intro p l e' s m below meth c C H locs ls hz hF hP hS hl
  exact lv_iload_n C.1 C.2.1 d hi (lv_at hl k hk) (h C hz hF hP hS hl)
theorem l_aloadn {j : Fin 4} {i k : Nat} {x : Nat} (d : decode code pc = .ok (.aload_n j, 1)) (hi : (j : Nat) = i) (hk : L[k]? = some (i, .ref x)) (h : JL X b N xs fx a cs ss (pc + 1) L (.ref x :: st) G) : JL X b N xs fx a cs ss pc L st G := by
  intro p l e' s m below meth c C H locs ls hz hF hP hS hl
  exact lv_aload_n C.1 C.2.1 d hi (lv_at hl k hk) (h C hz hF hP hS hl)
theorem l_istoren {j : Fin 4} {i : Nat} {x x' : Int} {L' : List (Nat × Value)} (d : decode code pc = .ok (.istore_n j, 1)) (hi : (j : Nat) = i) (hx : wr x = x') (hn : i < 4) (hl' : (i, vi x') :: L.filter (fun q => !(q.1 == i) && !(q.1 + 1 == i && q.2.category == 2)) = L') (h : JL X b N xs fx a cs ss (pc + 1) L' st G) : JL X b N xs fx a cs ss pc L (vi x :: st) G := by
  intro p l e' s m below meth c C H locs ls hz hF hP hS hl
  rw [vi_eq hx]
  exact lv_istore_n C.1 C.2.1 d hi hl hn hl' (fun ls' hl2 => h C hz hF hP hS hl2)
theorem l_astoren {j : Fin 4} {i x : Nat} {L' : List (Nat × Value)} (d : decode code pc = .ok (.astore_n j, 1)) (hi : (j : Nat) = i) (hn : i < 4) (hl' : (i, Value.ref x) :: L.filter (fun q => !(q.1 == i) && !(q.1 + 1 == i && q.2.category == 2)) = L') (h : JL X b N xs fx a cs ss (pc + 1) L' st G) : JL X b N xs fx a cs ss pc L (.ref x :: st) G := by
  intro p l e' s m below meth c C H locs ls hz hF hP hS hl
  exact lv_astore_n C.1 C.2.1 d hi hl hn hl' (fun ls' hl2 => h C hz hF hP hS hl2)
theorem l_iinc {i k : Nat} {t x x' : Int} {L' : List (Nat × Value)} (d : decode code pc = .ok (.iinc i t, 3)) (hk : L[k]? = some (i, vi x)) (hx : wr (x + t) = x') (hn : i < 4) (hl' : (i, vi x') :: L.filter (fun q => !(q.1 == i) && !(q.1 + 1 == i && q.2.category == 2)) = L') (h : JL X b N xs fx a cs ss (pc + 3) L' st G) : JL X b N xs fx a cs ss pc L st G := by
  intro p l e' s m below meth c C H locs ls hz hF hP hS hl
  refine lv_iinc (v := Int32.ofInt x') C.1 C.2.1 d hl hk ?_ hn hl' (fun ls' hl2 => h C hz hF hP hS hl2)
  rw [← hx, i32_wr, Int32.ofInt_add]
theorem l_loc {L' : List (Nat × Value)} (ks : List Nat) (e : lv_pick L ks = L') (h : JL X b N xs fx a cs ss pc L' st G) : JL X b N xs fx a cs ss pc L st G := by
  intro p l e' s m below meth c C H locs ls hz hF hP hS hl
  exact h C hz hF hP hS (lv_sub hl ks e)
theorem l_dup {v : Value} (d : decode code pc = .ok (.dup, 1)) (hv : v.category = 1) (h : JL X b N xs fx a cs ss (pc + 1) L (v :: v :: st) G) : JL X b N xs fx a cs ss pc L (v :: st) G := by
  intro p l e' s m below meth c C H locs ls hz hF hP hS hl
  exact lv_dup C.1 C.2.1 d hv (h C hz hF hP hS hl)
theorem l_iadd {x y : Int} (d : decode code pc = .ok (.iadd, 1)) (h : JL X b N xs fx a cs ss (pc + 1) L (vi (x + y) :: st) G) : JL X b N xs fx a cs ss pc L (vi y :: vi x :: st) G := by
  intro p l e' s m below meth c C H locs ls hz hF hP hS hl
  have := h (l := l) (e := e') (below := below) C hz hF hP hS hl
  rw [vi, Int32.ofInt_add] at this
  exact lv_iadd C.1 C.2.1 d this
theorem l_isub {x y : Int} (d : decode code pc = .ok (.isub, 1)) (h : JL X b N xs fx a cs ss (pc + 1) L (vi (x - y) :: st) G) : JL X b N xs fx a cs ss pc L (vi y :: vi x :: st) G := by
  intro p l e' s m below meth c C H locs ls hz hF hP hS hl
  have := h (l := l) (e := e') (below := below) C hz hF hP hS hl
  rw [vi, Int32.ofInt_sub] at this
  exact lv_isub C.1 C.2.1 d this
theorem l_iand {x y : Int} (d : decode code pc = .ok (.iand, 1)) (h : JL X b N xs fx a cs ss (pc + 1) L (vi (bAnd x y) :: st) G) : JL X b N xs fx a cs ss pc L (vi y :: vi x :: st) G := by
  intro p l e' s m below meth c C H locs ls hz hF hP hS hl
  have := h (l := l) (e := e') (below := below) C hz hF hP hS hl
  rw [vi, bAnd, Int32.ofInt_toInt] at this
  exact lv_iand C.1 C.2.1 d this
theorem l_lcmp {x y : Int} (d : decode code pc = .ok (.lcmp, 1)) (h : JL X b N xs fx a cs ss (pc + 1) L (vi (lc x y) :: st) G) : JL X b N xs fx a cs ss pc L (vl y :: vl x :: st) G := by
  intro p l e' s m below meth c C H locs ls hz hF hP hS hl
  have := h (l := l) (e := e') (below := below) C hz hF hP hS hl
  rw [vi, lc, Int32.ofInt_toInt] at this
  exact W.lcmp C.1 C.2.1 d this
theorem l_goto {off : Int} {tgt : Nat} (d : decode code pc = .ok (.goto off, 3)) (ht : (pc : Int) + off = (tgt : Int)) (h : JL X b N xs fx a cs ss tgt L st G) : JL X b N xs fx a cs ss pc L st G := by
  intro p l e' s m below meth c C H locs ls hz hF hP hS hl
  exact lv_goto C.1 C.2.1 d ht (h C hz hF hP hS hl)
/-- like answers: on to the end of the case -/
theorem l_same {x y : Int} {off : Int} {tgt : Nat} (d : decode code pc = .ok (.if_icmp .eq off, 3)) (ht : (pc : Int) + off = (tgt : Int)) (e : x = y) (h : JL X b N xs fx a cs ss tgt L st G) : JL X b N xs fx a cs ss pc L (vi y :: vi x :: st) G := by
  intro p l e' s m below meth c C H locs ls hz hF hP hS hl
  subst e
  exact lv_icmp_eq C.1 C.2.1 d ht (fun _ => h C hz hF hP hS hl) (fun q => absurd rfl q)
theorem l_samel {x : Int} {off : Int} {tgt : Nat} (d : decode code pc = .ok (.ifCond .eq off, 3)) (ht : (pc : Int) + off = (tgt : Int)) (e : x = 0) (h : JL X b N xs fx a cs ss tgt L st G) : JL X b N xs fx a cs ss pc L (vi x :: st) G := by
  intro p l e' s m below meth c C H locs ls hz hF hP hS hl
  subst e
  exact lv_if_eq C.1 C.2.1 d ht (fun _ => h C hz hF hP hS hl) (fun q => absurd i32z q)
theorem l_ic_gt {x y x' y' : Int} {off : Int} {tgt : Nat} (d : decode code pc = .ok (.if_icmp .gt off, 3)) (ht : (pc : Int) + off = (tgt : Int)) (hx : wr x = x') (hy : wr y = y') (kt : y' < x' → JL X b N xs fx a cs ss tgt L st G) (kf : ¬ y' < x' → JL X b N xs fx a cs ss (pc + 3) L st G) : JL X b N xs fx a cs ss pc L (vi y :: vi x :: st) G := by
  intro p l e' s m below meth c C H locs ls hz hF hP hS hl
  exact lv_icmp_gt C.1 C.2.1 d ht (fun h => kt ((c_lt hy hx).mp h) C hz hF hP hS hl) (fun h => kf (fun h2 => h ((c_lt hy hx).mpr h2)) C hz hF hP hS hl)
theorem l_tIn {x x' v dflt lo hi off : Int} {offs : Array Int} {len tgt : Nat} (d : decode code pc = .ok (.tableswitch dflt lo hi offs, len)) (hx : wr x = x') (hv : x' = v) (h1 : ¬ v < lo) (h2 : ¬ hi < v) (ho : offs[(v - lo).toNat]? = some off) (ht : (pc : Int) + off = (tgt : Int)) (h : JL X b N xs fx a cs ss tgt L st G) : JL X b N xs fx a cs ss pc L (vi x :: st) G := by
  intro p l e' s m below meth c C H locs ls hz hF hP hS hl
  have hxt : (Int32.ofInt x).toInt = v := hx.trans hv
  exact lv_tableIn C.1 C.2.1 d (by rw [hxt]; exact h1) (by rw [hxt]; exact h2) (by rw [hxt]; exact ho) ht (h C hz hF hP hS hl)
theorem l_tOut {x x' dflt lo hi : Int} {offs : Array Int} {len tgt : Nat} (d : decode code pc = .ok (.tableswitch dflt lo hi offs, len)) (hx : wr x = x') (hv : x' < lo ∨ hi < x') (ht : (pc : Int) + dflt = (tgt : Int)) (h : JL X b N xs fx a cs ss tgt L st G) : JL X b N xs fx a cs ss pc L (vi x :: st) G := by
  intro p l e' s m below meth c C H locs ls hz hF hP hS hl
  have hxt : (Int32.ofInt x).toInt = x' := hx
  exact lv_tableOut C.1 C.2.1 d (by rw [hxt]; exact hv) ht (h C hz hF hP hS hl)
theorem not_foot {s : State} {b : Nat} (h1 : b < s.heap.size) (h2 : X.1 = s.heap.size) : ¬ foot X b := fun h => by
  have h3 : X.1 ≤ b := h
  omega
theorem l_sld {x x' : Int} (d : decode code pc = .ok (.iaload, 1)) (hx : wr x = x') (h0 : 0 ≤ x') (h1 : x' < (N : Int)) (h : JL X b N xs fx a cs ss (pc + 1) L (vi (sc xs x'.toNat) :: st) G) : JL X b N xs fx a cs ss pc L (vi x :: .ref b :: st) G := by
  intro p l e' s m below meth c C H locs ls hz hF hP hS hl
  have := h (l := l) (e := e') (below := below) C hz hF hP hS hl
  rw [vi, sc, Int32.ofInt_toInt] at this
  refine va_sld C.1 C.2.1 C.2.2.2.2.2.2.2.2.1 C.2.2.2.2.2.2.2.2.2.1 (not_foot C.2.2.2.2.2.2.2.2.2.1 C.2.2.2.2.2.2.2.2.2.2.2) hS (vp_inN hx h0 h1) d ?_
  rw [clampN hx]
  exact this
theorem l_slen (d : decode code pc = .ok (.arraylength, 1)) (h : JL X b N xs fx a cs ss (pc + 1) L (vi N :: st) G) : JL X b N xs fx a cs ss pc L (.ref b :: st) G := by
  intro p l e' s m below meth c C H locs ls hz hF hP hS hl
  refine va_slen C.1 C.2.1 C.2.2.2.2.2.2.2.2.1 C.2.2.2.2.2.2.2.2.2.1 (not_foot C.2.2.2.2.2.2.2.2.2.1 C.2.2.2.2.2.2.2.2.2.2.2) hS d ?_
  rw [i32_nat]
  exact h C hz hF hP hS hl
theorem l_run {mc' ms' : Nat} {av st0 : List Value} {Q' : Option Value → Nat → GS → Prop} {p : Program} {l : Launch} {e : Env} {s : State} {m : MethodId} {below : List Frame} {meth : Method} {c : Code} (C : LC X p s m meth c b N xs) {H : Heap} {locs : List Loc} {ls : Array Slot} (hz : s.heap.size + cs = X.1 + a) (hsz : H.size = X.1 + a) (hS : va_S (foot X) s.heap H locs) (hl : lv_has ls 4 L)
    (hr : va_Run p l e room_1 s m #[Value.ref b] below meth c H locs cs ss mc' ms' (F0 m pc ls st0) st (Qx X fx mc' Q' av.toArray) (foot X))
    (k : ∀ (v : Option Value) (a' : Nat) (G' : GS), Q' v a' G' → JL X b N xs fx a' (cs + mc') (ss + ms') (pc + 3) L (v.toList ++ st) G') :
    W p l e room_1 s m #[Value.ref b] below meth c H locs cs ss (lw_Z below #[Value.ref b] s) (F0 m pc ls st0) := by
  intro T hT X0
  obtain ⟨v, st₀, t, T', Lc, h0, X', hLc, e1, e2, ⟨v2, a', G', ho, hQ, hs2, hwf, hP', hF'⟩, stp⟩ := hr T hT X0
  cases ho
  rw [h0] at hs2
  have hF' : H.size ≤ t.heap.size ∧ ∀ q : Nat, q < H.size → ¬ foot X q → t.heap[q]? = H[q]? := by
    have h5 := hF'
    unfold va_F at h5
    rwa [h0] at h5
  obtain ⟨t2, a1, b1⟩ := k v a' G' hQ (l := l) (e := e) (below := below) C (H := T'.heap) (locs := locs ++ Lc) (ls := ls) (by omega) hwf (by rw [e1]; exact hP')
    ⟨Nat.le_trans hS.1 (by rw [e1]; exact hF'.1), fun q h1 h2 => by rw [e1, hF'.2 q (Nat.lt_of_lt_of_le h1 hS.1) h2]; exact hS.2.1 q h1 h2, fun q hq => by
      rcases List.mem_append.mp hq with h | h
      · exact hS.2.2 q h
      · exact hLc q h⟩ hl T' rfl X'
  exact ⟨t2, stp t2 a1, b1⟩
theorem l_callV {idx kk n' ci c0 NN N' : Nat} {T : u_T} {M' : MI} {As st0 : List Value} {Q' : Option Value → Nat → GS → Prop} (hC : Call X fx n' 0 0 M' (rf X c0 :: As) a G Q') (hl0 : Cond.methodLink "InquestHallLaw" idx M'.1 ∈ TS) (hM : MOK M' kk) (hc : kd c0 = (ci + 5, NN)) (hca : c0 < a) (hcl : clsL[ci]? = some (M'.1.cls, T, N')) (hn : n' ≤ 1000) (hlen : As.length = kk) (hst : st0 = As.reverse ++ rf X c0 :: st) (hstk : (st.map fun v => v.category).sum ≤ 8) (hss : cs ≤ 600000 ∧ ss ≤ 7302250)
    (d : decode code pc = .ok (.invokevirtual idx, 3))
    (k : ∀ (v : Option Value) (a' : Nat) (G' : GS), Q' v a' G' → JL X b N xs fx a' cs ss (pc + 3) L (v.toList ++ st) G') : JL X b N xs fx a cs ss pc L st0 G := by
  intro p l e s m below meth c C H locs ls hz hF hP hS hl T0 hT0 X0
  have hsz : H.size = X.1 + a := heap_size hz (Nat.le_of_eq C.2.2.2.2.2.2.2.2.2.2.2) hP hS hT0 X0
  obtain ⟨m1, m2, m3, m4, m5, m6, m7⟩ := hM
  have hts := C.2.2.2.2.2.1
  have cw : CallW room_1 s #[Value.ref b] "InquestHallLaw" M'.1.cls idx M'.1 M'.2.1 M'.2.2.1 M'.2.2.2 (wsM M') (rm n' 0 0) 0 0 As.length := by
    refine ⟨⟨rfl, rfl, ?_, ?_, ws_ok hts m4, List.mem_cons_self, hts _ m4, hts _ m3, ⟨m5.1, m5.2.1⟩, ?_, hts _ hl0⟩, hts _ m1, hts _ m2⟩
    · show n' + 1 ≤ 2048; omega
    · show 8 + (M'.2.2.1 + 11) + 40 * (n' + 1) ≤ 84000; omega
    · rw [hlen]; exact len_ok m6
  have hrecv : ∃ cell : Cell, H[X.1 + c0]? = some cell ∧ cell.vm.isStatics = false ∧ s.vm.findClass M'.1.cls = some cell.cls := va_recv (q := (M'.1.cls, T, N')) C.2.2.2.2.2.2.1 hP hcl (by rw [wsG_get hca, wE_o hc])
  refine l_run (av := rf X c0 :: As) C hz hsz hS hl (va_runV (As := As) (rest := st) ⟨C.1, C.2.1, C.2.2.2.1, C.2.2.2.2.1, hts⟩ (hC l) cw ⟨blind_Wd, hrecv, fun U hU hW => ⟨rfl, by rw [hU]; exact hsz, hF, by rw [hU]; exact hP, va_K.moved hW.alike C.2.2.2.2.2.2.1, C.2.2.2.2.2.2.2.1.at hS hU hW⟩⟩ rfl rfl hl.1 hst (lv_room hstk) d ⟨hss.1, hss.2⟩) k T0 hT0 X0
theorem l_callI {idx n' mc' ms' c0 : Nat} {M' : MI} {st0 : List Value} {Q' : Option Value → Nat → GS → Prop} (hC : Call X fx n' mc' ms' M' [rf X c0] a G Q') (hl0 : Cond.methodLink "InquestHallLaw" idx M'.1 ∈ TS) (hM : IOK M' 0) (hn : n' ≤ 1000) (hst : st0 = rf X c0 :: st) (hstk : (st.map fun v => v.category).sum ≤ 8) (hss : cs + mc' ≤ 600000 ∧ ss + ms' ≤ 7302250)
    (d : decode code pc = .ok (.invokespecial idx, 3))
    (k : ∀ (v : Option Value) (a' : Nat) (G' : GS), Q' v a' G' → JL X b N xs fx a' (cs + mc') (ss + ms') (pc + 3) L (v.toList ++ st) G') : JL X b N xs fx a cs ss pc L st0 G := by
  intro p l e s m below meth c C H locs ls hz hF hP hS hl T0 hT0 X0
  have hsz : H.size = X.1 + a := heap_size hz (Nat.le_of_eq C.2.2.2.2.2.2.2.2.2.2.2) hP hS hT0 X0
  obtain ⟨m1, m2, mr, m3, m4, m5, m6, m7⟩ := hM
  have hts := C.2.2.2.2.2.1
  have cw : CallB room_1 s #[Value.ref b] "InquestHallLaw" idx M'.1 M'.2.1 M'.2.2.1 none (wsM M') (rm n' mc' ms') mc' ms' ([] : List Value).length ∧ M'.1.name = "<init>" ∧ (Cond.instanceMethod M'.1).before #[Value.ref b] s = true := by
    refine ⟨⟨rfl, rfl, ?_, ?_, ws_ok hts m4, by rw [← mr]; exact List.mem_cons_self, by rw [← mr]; exact hts _ m4, hts _ m3, ⟨m5.1, m5.2.1⟩, len_ok m6, hts _ hl0⟩, m2, hts _ m1⟩
    · show n' + 1 ≤ 2048; omega
    · show 8 + (M'.2.2.1 + 11) + 40 * (n' + 1) ≤ 84000; omega
  refine l_run (av := [rf X c0]) C hz hsz hS hl (va_runI (As := []) (rest := st) ⟨C.1, C.2.1, C.2.2.2.1, C.2.2.2.2.1, hts⟩ (hC l) cw ⟨blind_Wd, fun U hU hW => ⟨rfl, by rw [hU]; exact hsz, hF, by rw [hU]; exact hP, va_K.moved hW.alike C.2.2.2.2.2.2.1, C.2.2.2.2.2.2.2.1.at hS hU hW⟩⟩ rfl rfl hl.1 hst (lv_room hstk) d hss) k T0 hT0 X0
theorem l_new {C1 : String} {T : u_T} {ty : Nat → FieldType} {idx ci NN : Nat} (hok : ClsOK ci C1 T NN ty) (hdef : ∀ j, j < NN → defaultValue (ty j) = dfl ci j) (hcl : Cond.classLink "InquestHallLaw" idx C1 ∈ TS) (hins : Cond.instantiable C1 NN ∈ TS) (hini : Cond.initialized C1 ∈ TS) (hk : kd a = (ci + 5, NN)) (hc : cs + 1 ≤ 600000) (hs : ss + NN ≤ 7302250) (d : decode code pc = .ok (.new idx, 3)) (h : JL X b N xs false (a + 1) (cs + 1) (ss + NN) (pc + 3) L (rf X a :: st) G) : JL X b N xs false a cs ss pc L st G := by
  intro p l e s m below meth c C0 H locs ls hz hF hP hS hl
  obtain ⟨q1, q2, q3, q4, q5⟩ := hok
  have hts := C0.2.2.2.2.2.1
  refine va_new (fs := (List.range NN).map (fV X G a ci)) C0.1 C0.2.1 hts q2 ty q3 C0.2.2.2.2.1 (hts _ hcl) (hts _ hins) (hts _ hini) C0.2.2.2.2.2.2.1 hP (wsG_D X a G) hS (foot_ge (Nat.le_of_eq C0.2.2.2.2.2.2.2.2.2.2.2)) q1 ?_ hc hs d (fun q H1 hP1 hD1 hS1 => ?_)
  · intro j hj
    rw [hdef j hj, vp_V, List.getD_eq_getElem?_getD, List.getElem?_map, List.getElem?_range hj]
    exact (fV_zero hF.1).symm
  · intro T1 hT1 X1
    have hq := new_addr hz hP1 hD1 hT1 X1
    subst hq
    rw [← wE_o hk, ← wsG_succ] at hP1
    exact h C0 (by omega) ⟨ZG_succ hF.1, fun q => by cases q⟩ hP1 hS1 hl T1 hT1 X1
/-- from here on the references are known -/
theorem l_fx (hG : FX G) (h : JL X b N xs true a cs ss pc L st G) : JL X b N xs false a cs ss pc L st G := by
  intro p l e s m below meth c C H locs ls hz hF hP hS hl
  exact h C hz ⟨hF.1, fun _ => hG⟩ hP hS hl
theorem l_end (d : decode code pc = .ok (.ireturn, 1)) (hc : cs ≤ 600000) (hs : ss ≤ 7302250) : JL X b N xs fx a cs ss pc L [vi 1] G := by
  intro p l e s m below meth c C H locs ls hz hF hP hS hl
  refine va_forget (fun q hq => by
    have h3 : X.1 ≤ q.base := hS.2.2 q hq
    have h4 := C.2.2.2.2.2.2.2.2.2.2.2
    omega) ?_
  refine W.widen hc hs ?_
  exact lw_ret C.1 C.2.1 C.2.2.1 C.2.2.2.2.2.2.2.2.2.2.1 d
end JLR
