/-! the JDK's fill, and the text constants -/
def fillG (G : GS) (c N : Nat) (v : Int) : GS := (fun i j => if i = c ∧ j < N then v else G.1 i j, G.2.1, G.2.2)
def lenI (i : Nat) : Int := (lenS.getD i 0 : Nat)
def chS (i k : Nat) : Int := (((bytS.getD i []).getD k 0).toInt)
theorem wr_chS (i k : Nat) : wr (chS i k) = chS i k := wr_t _
theorem lenS_small : ∀ i, i < 37 → lenS.getD i 0 < 256 := by decide +kernel
theorem wr_lenI {i : Nat} (h : i < 37) : wr (lenI i) = lenI i := by
  have := lenS_small i h
  unfold lenI
  exact wr_of (by omega) (by omega)
theorem kd_small : ∀ k, k < NC → (kd k).2 ≤ 6480 := by decide +kernel
abbrev M_Arrays_fill : MI := (⟨"java/util/Arrays", "fill", "([II)V"⟩, prog_20_method_103_code, 4, none)
def tb_fill : List (Nat × Instr × Nat) := [(0, .iconst 0, 1), (1, .istore_n 2, 1), (2, .aload_n 0, 1), (3, .arraylength, 1), (4, .istore_n 3, 1), (5, .iload_n 2, 1), (6, .iload_n 3, 1), (7, .if_icmp .ge 13, 3), (10, .aload_n 0, 1), (11, .iload_n 2, 1), (12, .iload_n 1, 1), (13, .iastore, 1), (14, .iinc 2 1, 3), (17, .goto (-12), 3), (20, .return_, 1)]
theorem D_fill (i : Nat) {pc len : Nat} {ins : Instr} (hi : tb_fill[i]? = some (pc, ins, len)) : decode M_Arrays_fill.2.1 pc = .ok (ins, len) := dec_of (by decide +kernel) i hi
theorem fill_step {G : GS} {c i : Nat} {v : Int} : si (fillG G c i v) c i v = fillG G c (i + 1) v := by
  unfold si fillG
  refine Prod.ext ?_ rfl
  funext x y
  by_cases h1 : x = c <;> by_cases h2 : y = i <;> by_cases h3 : y < i <;> simp_all <;> omega
theorem fill_zero {G : GS} {c : Nat} {v : Int} : fillG G c 0 v = G := by
  unfold fillG
  simp
section JT
variable {X : XT} {fx : Bool} {n mc ms : Nat} {M : MI} {Q : Option Value → Nat → GS → Prop} {a cs ss pc : Nat} {L : List (Nat × Value)} {st : List Value} {G : GS}
theorem fill_loop {c N : Nat} {v : Int} (hk : kd c = (0, N)) (hc : c < a) (hN : N ≤ 6480) (hv : wr v = v) (hQ : Q none a (fillG G c N v)) : ∀ (k i : Nat), i + k = N → J X fx 5 0 0 M_Arrays_fill Q a 0 0 5 [(0, rf X c), (1, vi v), (2, vi i), (3, vi N)] [] (fillG G c i v) := by
  intro k
  induction k with
  | zero =>
    intro i hi
    have : i = N := by omega
    subst this
    refine j_iloadn (k := 2) (D_fill 5 rfl) rfl rfl ?_
    refine j_iloadn (k := 3) (D_fill 6 rfl) rfl rfl ?_
    refine j_ic_ge (tgt := 20) (D_fill 7 rfl) rfl (wr_of (by omega) (by omega)) (wr_of (by omega) (by omega)) (fun h => ?_) (fun h => by omega)
    exact j_vret (D_fill 14 rfl) rfl rfl rfl hQ
  | succ k ih =>
    intro i hi
    have hwi : wr (i : Int) = i := wr_of (by omega) (by omega)
    refine j_iloadn (k := 2) (D_fill 5 rfl) rfl rfl ?_
    refine j_iloadn (k := 3) (D_fill 6 rfl) rfl rfl ?_
    refine j_ic_ge (tgt := 20) (D_fill 7 rfl) rfl hwi (wr_of (by omega) (by omega)) (fun h => by omega) (fun h => ?_)
    refine j_aloadn (k := 0) (D_fill 8 rfl) rfl rfl ?_
    refine j_iloadn (k := 2) (D_fill 9 rfl) rfl rfl ?_
    refine j_iloadn (k := 1) (D_fill 10 rfl) rfl rfl ?_
    refine j_iast (D_fill 11 rfl) hk hc hwi rfl (by omega) (by omega) ?_
    rw [Int.toNat_natCast, fill_step]
    refine j_iinc (k := 2) (x' := ((i + 1 : Nat) : Int)) (L' := [(2, vi ((i + 1 : Nat) : Int)), (0, rf X c), (1, vi v), (3, vi N)]) (D_fill 12 rfl) rfl (wr_of (by omega) (by omega)) (by decide) rfl ?_
    refine j_goto (tgt := 5) (D_fill 13 rfl) rfl ?_
    refine j_loc [1, 2, 0, 3] rfl ?_
    exact ih (i + 1) (by omega)
theorem cw_Arrays_fill : Cond.code M_Arrays_fill.1 M_Arrays_fill.2.1 M_Arrays_fill.2.2.1 M_Arrays_fill.2.2.2 ∈ TS := mTS (List.mem_of_getElem? (i := 371) (by decide +kernel)) (by decide +kernel)
theorem c_fillG {c N : Nat} {v : Int} (hk : kd c = (0, N)) (hc : c < a) (hcN : c < NC) (hv : wr v = v) : Call X fx 5 0 0 M_Arrays_fill [rf X c, vi v] a G (fun w a' G' => w = none ∧ a' = a ∧ G' = fillG G c N v) := by
  have hN : N ≤ 6480 := by have := kd_small c hcN; rw [hk] at this; exact this
  refine Call_of_J cw_Arrays_fill (by decide +kernel) (Nat.le_of_ble_eq_true rfl) ?_
  show J X fx 5 0 0 M_Arrays_fill _ a 0 0 0 [(0, rf X c), (1, vi v)] [] G
  refine j_iconst (v := 0) (D_fill 0 rfl) rfl ?_
  refine j_istoren (L' := [(2, vi 0), (0, rf X c), (1, vi v)]) (D_fill 1 rfl) rfl wr_z (by decide) rfl ?_
  refine j_aloadn (k := 1) (D_fill 2 rfl) rfl rfl ?_
  refine j_alenI (D_fill 3 rfl) hk hc rfl ?_
  refine j_istoren (L' := [(3, vi N), (2, vi 0), (0, rf X c), (1, vi v)]) (D_fill 4 rfl) rfl (wr_of (by omega) (by omega)) (by decide) rfl ?_
  refine j_loc [2, 3, 1, 0] rfl ?_
  have := fill_loop (X := X) (fx := fx) (Q := fun w a' G' => w = none ∧ a' = a ∧ G' = fillG G c N v) hk hc hN hv ⟨rfl, rfl, rfl⟩ N 0 (by omega)
  rw [fill_zero] at this
  exact this
theorem c_fill {c N : Nat} {v : Int} (hk : kd c = (0, N)) (hc : c < NC) (hv : wr v = v) : Call X true 5 0 0 M_Arrays_fill [rf X c, vi v] NC G (Rv (fillG G c N v)) := c_fillG hk hc hc hv
-- text constants
theorem j_ldcS {i : Nat} {own tx : String} {idx : Nat} (hown : M.1.cls = own) (hs : strL[i]? = some (own, idx, tx)) (d : decode M.2.1 pc = .ok (.ldc idx, 2)) (h : J X fx n mc ms M Q a cs ss (pc + 2) L (sr X i :: st) G) : J X fx n mc ms M Q a cs ss pc L st G := by
  intro p l e' s m args below meth c C H locs ls hz hF hP hS hl
  subst hown
  exact va_ldcS C.1 C.2.1 C.2.2.2.2.2.1 (C.2.2.2.2.2.2.2.2.1.2.1 i _ hs) d (h C hz hF hP hS hl)
theorem stand_ldcw {p : Program} {l : Launch} {e : Env} {R : Room} {s : State} {m : MethodId} {args : Array Value} {below : List Frame} {meth : Method} {c : Code} {locs : List Loc} {cells slots : Nat} {T : State} (Y : Stand p l e R s m args below meth c T locs cells slots) (hexec : p.tables.exec = Jvm.exec) {own text : String} {index b : Nat} (hown : s.vm.findClass own = some m.cls)
    (hconst : (Cond.stringRef own index text).before #[] s = true) (hev : (Term.string own index).eval #[] s none [] s = some (.ref b)) {g : JFrame} (hg : g.method = m) (hdg : decode c.code g.pc = .ok (.ldc_w index, 3)) :
    ∀ target, Steps p.tables e below (T.setTop { g with pc := g.pc + 3, stack := .ref b :: g.stack }) target → Steps p.tables e below (T.setTop g) target := by
  obtain ⟨k, cf, i, a', hk, hcf, hcp, -, hr, hev'⟩ := Cond.stringRef_spec hown hconst
  cases hev.symm.trans hev'
  obtain ⟨k', hk', he⟩ := Y.warmed.alike.2.2 _ _ hk
  have hr' : k'.resolved[index]? = some (some (.string b)) := by
    rcases Y.warmed.entry hk hk' index with h | ⟨h, -⟩
    · rw [h]; exact hr
    · rw [hr] at h; cases h
  intro target hrest
  subst hg
  jvm_step Y.here [hexec, hdg, ldc_w.wp_string (e := e) (s := T) (f := g) Y.here.top hk' (by rw [he]; exact hcf) hcp hr']
  exact hrest
theorem j_ldcwS {i : Nat} {own tx : String} {idx : Nat} (hown : M.1.cls = own) (hs : strL[i]? = some (own, idx, tx)) (d : decode M.2.1 pc = .ok (.ldc_w idx, 3)) (h : J X fx n mc ms M Q a cs ss (pc + 3) L (sr X i :: st) G) : J X fx n mc ms M Q a cs ss pc L st G := by
  intro p l e' s m args below meth c C H locs ls hz hF hP hS hl
  subst hown
  intro T hT Y
  obtain ⟨t, a1, b1⟩ := h C hz hF hP hS hl T hT Y
  have hR := C.2.2.2.2.2.2.2.2.1.2.1 i _ hs
  exact ⟨t, stand_ldcw Y C.1 C.2.2.2.2.2.1 hR.1 hR.2 (g := F0 m pc ls st) rfl (by rw [C.2.1]; exact d) t a1, b1⟩
end JT
