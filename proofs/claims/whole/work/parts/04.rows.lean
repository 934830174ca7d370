/-! more rows of J: bits, branches, fields, arrays, ends, calls -/
def bAnd (x y : Int) : Int := (Int32.ofInt x &&& Int32.ofInt y).toInt
def bOr (x y : Int) : Int := (Int32.ofInt x ||| Int32.ofInt y).toInt
def bXor (x y : Int) : Int := (Int32.ofInt x ^^^ Int32.ofInt y).toInt
def bShl (x y : Int) : Int := (Int32.ofInt x <<< (Int32.ofInt y &&& 31)).toInt
def bShr (x y : Int) : Int := (Int32.ofInt x >>> (Int32.ofInt y &&& 31)).toInt
def bUshr (x y : Int) : Int := ((Int32.ofInt x).toUInt32 >>> ((Int32.ofInt y).toUInt32 &&& Int32.toUInt32 31)).toInt32.toInt
def dv (x y : Int) : Int := (Int32.ofInt x / Int32.ofInt y).toInt
def md (x y : Int) : Int := (Int32.ofInt x - Int32.ofInt x / Int32.ofInt y * Int32.ofInt y).toInt
def ldv (x y : Int) : Int := (Int64.ofInt x / Int64.ofInt y).toInt
def lmd (x y : Int) : Int := (Int64.ofInt x - Int64.ofInt x / Int64.ofInt y * Int64.ofInt y).toInt
def lc (x y : Int) : Int := (lg_cmp (Int64.ofInt x) (Int64.ofInt y)).toInt
def w8 (x : Int) : Int := (Int32.ofInt x).toInt8.toInt32.toInt
def w16 (x : Int) : Int := ((Int32.ofInt x).toUInt32 % 65536).toInt32.toInt
theorem wr_t (x : Int32) : wr x.toInt = x.toInt := by rw [wr, Int32.ofInt_toInt]
theorem wl_t (x : Int64) : wl x.toInt = x.toInt := by rw [wl, Int64.ofInt_toInt]
theorem wr_bAnd (x y : Int) : wr (bAnd x y) = bAnd x y := wr_t _
theorem wr_bOr (x y : Int) : wr (bOr x y) = bOr x y := wr_t _
theorem wr_bXor (x y : Int) : wr (bXor x y) = bXor x y := wr_t _
theorem wr_bShl (x y : Int) : wr (bShl x y) = bShl x y := wr_t _
theorem wr_bShr (x y : Int) : wr (bShr x y) = bShr x y := wr_t _
theorem wr_bUshr (x y : Int) : wr (bUshr x y) = bUshr x y := wr_t _
theorem wr_dv (x y : Int) : wr (dv x y) = dv x y := wr_t _
theorem wr_md (x y : Int) : wr (md x y) = md x y := wr_t _
theorem wl_ldv (x y : Int) : wl (ldv x y) = ldv x y := wl_t _
theorem wl_lmd (x y : Int) : wl (lmd x y) = lmd x y := wl_t _
theorem wr_lc (x y : Int) : wr (lc x y) = lc x y := wr_t _
theorem wr_w8 (x : Int) : wr (w8 x) = w8 x := wr_t _
theorem wr_w16 (x : Int) : wr (w16 x) = w16 x := wr_t _
theorem c_eq {x y x' y' : Int} (hx : wr x = x') (hy : wr y = y') : Int32.ofInt x = Int32.ofInt y ↔ x' = y' := by rw [← Int32.toInt_inj]; show wr x = wr y ↔ _; rw [hx, hy]
theorem c_lt {x y x' y' : Int} (hx : wr x = x') (hy : wr y = y') : Int32.ofInt x < Int32.ofInt y ↔ x' < y' := by rw [Int32.lt_iff_toInt_lt]; show wr x < wr y ↔ _; rw [hx, hy]
theorem c_le {x y x' y' : Int} (hx : wr x = x') (hy : wr y = y') : Int32.ofInt x ≤ Int32.ofInt y ↔ x' ≤ y' := by rw [Int32.le_iff_toInt_le]; show wr x ≤ wr y ↔ _; rw [hx, hy]
theorem wr_z : wr 0 = 0 := by decide
theorem i32z : Int32.ofInt 0 = 0 := by decide
theorem c_eq0 {x x' : Int} (hx : wr x = x') : Int32.ofInt x = 0 ↔ x' = 0 := by rw [← i32z]; exact c_eq hx wr_z
theorem c_lt0 {x x' : Int} (hx : wr x = x') : Int32.ofInt x < 0 ↔ x' < 0 := by rw [← i32z]; exact c_lt hx wr_z
theorem c_0lt {x x' : Int} (hx : wr x = x') : 0 < Int32.ofInt x ↔ 0 < x' := by rw [← i32z]; exact c_lt wr_z hx
theorem c_le0 {x x' : Int} (hx : wr x = x') : Int32.ofInt x ≤ 0 ↔ x' ≤ 0 := by rw [← i32z]; exact c_le hx wr_z
theorem c_0le {x x' : Int} (hx : wr x = x') : 0 ≤ Int32.ofInt x ↔ 0 ≤ x' := by rw [← i32z]; exact c_le wr_z hx
theorem l_eq0 {x x' : Int} (hx : wl x = x') : Int64.ofInt x = 0 ↔ x' = 0 := by
  rw [← Int64.toInt_inj]; show wl x = _ ↔ _; rw [hx]; simp
theorem clampN {x x' : Int} (hx : wr x = x') : (Int32.ofInt x).toNatClampNeg = x'.toNat := by subst hx; rfl
theorem vp_inN {x x' : Int} {N : Nat} (hx : wr x = x') (h1 : 0 ≤ x') (h2 : x' < N) : vp_in (Int32.ofInt x) N := by
  intro h
  rcases h with h | h
  · have := (c_lt0 hx).mp h; omega
  · rw [clampN hx] at h; omega
theorem ite_t {α : Type} {c : Prop} [Decidable c] {A B r : α} (h : (if c then A else B) = r) (hc : c) : A = r := by rwa [if_pos hc] at h
theorem ite_f {α : Type} {c : Prop} [Decidable c] {A B r : α} (h : (if c then A else B) = r) (hc : ¬ c) : B = r := by rwa [if_neg hc] at h
/-- a guard: what is told only where c holds -/
def gd {α : Type} (c : Prop) [Decidable c] (A : Option α) : Option α := if c then A else none
theorem gd_c {α : Type} {c : Prop} [Decidable c] {A : Option α} {r : α} (h : gd c A = some r) : c := by
  unfold gd at h; by_cases hc : c
  · exact hc
  · rw [if_neg hc] at h; cases h
theorem gd_s {α : Type} {c : Prop} [Decidable c] {A : Option α} {r : α} (h : gd c A = some r) : A = some r := by
  have hc := gd_c h; unfold gd at h; rwa [if_pos hc] at h
theorem gd_of {α : Type} {c : Prop} [Decidable c] {A : Option α} (h : c) : gd c A = A := if_pos h
def FA (own : String) (idx ci k : Nat) (fin : Bool) (τ : FieldType) : Prop := ∃ (C : String) (T : u_T) (N : Nat) (ty : Nat → FieldType), ClsOK ci C T N ty ∧ k < N ∧ Cond.fieldLink own idx C (T k).2.1 (T k).2.2.1 ∈ TS ∧ (T k).2.2.2 = fin ∧ ty k = τ
section JR2
variable {X : XT} {fx : Bool} {n mc ms : Nat} {M : MI} {Q : Option Value → Nat → GS → Prop} {a cs ss pc : Nat} {L : List (Nat × Value)} {st : List Value} {G : GS}
theorem j_iand {x y : Int} (d : decode M.2.1 pc = .ok (.iand, 1)) (h : J X fx n mc ms M Q a cs ss (pc + 1) L (vi (bAnd x y) :: st) G) : J X fx n mc ms M Q a cs ss pc L (vi y :: vi x :: st) G := by
  intro p l e' s m args below meth c C H locs ls hz hF hP hS hl
  have := h (l := l) (e := e') (below := below) C hz hF hP hS hl
  rw [vi, bAnd, Int32.ofInt_toInt] at this
  exact lv_iand C.1 C.2.1 d this
theorem j_ior {x y : Int} (d : decode M.2.1 pc = .ok (.ior, 1)) (h : J X fx n mc ms M Q a cs ss (pc + 1) L (vi (bOr x y) :: st) G) : J X fx n mc ms M Q a cs ss pc L (vi y :: vi x :: st) G := by
  intro p l e' s m args below meth c C H locs ls hz hF hP hS hl
  have := h (l := l) (e := e') (below := below) C hz hF hP hS hl
  rw [vi, bOr, Int32.ofInt_toInt] at this
  exact lv_ior C.1 C.2.1 d this
theorem j_ixor {x y : Int} (d : decode M.2.1 pc = .ok (.ixor, 1)) (h : J X fx n mc ms M Q a cs ss (pc + 1) L (vi (bXor x y) :: st) G) : J X fx n mc ms M Q a cs ss pc L (vi y :: vi x :: st) G := by
  intro p l e' s m args below meth c C H locs ls hz hF hP hS hl
  have := h (l := l) (e := e') (below := below) C hz hF hP hS hl
  rw [vi, bXor, Int32.ofInt_toInt] at this
  exact lv_ixor C.1 C.2.1 d this
theorem j_ishl {x y : Int} (d : decode M.2.1 pc = .ok (.ishl, 1)) (h : J X fx n mc ms M Q a cs ss (pc + 1) L (vi (bShl x y) :: st) G) : J X fx n mc ms M Q a cs ss pc L (vi y :: vi x :: st) G := by
  intro p l e' s m args below meth c C H locs ls hz hF hP hS hl
  have := h (l := l) (e := e') (below := below) C hz hF hP hS hl
  rw [vi, bShl, Int32.ofInt_toInt] at this
  exact lv_ishl C.1 C.2.1 d this
theorem j_ishr {x y : Int} (d : decode M.2.1 pc = .ok (.ishr, 1)) (h : J X fx n mc ms M Q a cs ss (pc + 1) L (vi (bShr x y) :: st) G) : J X fx n mc ms M Q a cs ss pc L (vi y :: vi x :: st) G := by
  intro p l e' s m args below meth c C H locs ls hz hF hP hS hl
  have := h (l := l) (e := e') (below := below) C hz hF hP hS hl
  rw [vi, bShr, Int32.ofInt_toInt] at this
  exact lv_ishr C.1 C.2.1 d this
theorem j_iushr {x y : Int} (d : decode M.2.1 pc = .ok (.iushr, 1)) (h : J X fx n mc ms M Q a cs ss (pc + 1) L (vi (bUshr x y) :: st) G) : J X fx n mc ms M Q a cs ss pc L (vi y :: vi x :: st) G := by
  intro p l e' s m args below meth c C H locs ls hz hF hP hS hl
  have := h (l := l) (e := e') (below := below) C hz hF hP hS hl
  rw [vi, bUshr, Int32.ofInt_toInt] at this
  exact lv_iushr C.1 C.2.1 d rfl this
theorem j_idiv {x y y' : Int} (d : decode M.2.1 pc = .ok (.idiv, 1)) (hy : wr y = y') (hne : ¬ y' = 0) (h : J X fx n mc ms M Q a cs ss (pc + 1) L (vi (dv x y) :: st) G) : J X fx n mc ms M Q a cs ss pc L (vi y :: vi x :: st) G := by
  intro p l e' s m args below meth c C H locs ls hz hF hP hS hl
  have := h (l := l) (e := e') (below := below) C hz hF hP hS hl
  rw [vi, dv, Int32.ofInt_toInt] at this
  exact lv_idiv C.1 C.2.1 d (fun e => hne ((c_eq0 hy).mp e)) this
theorem j_irem {x y y' : Int} (d : decode M.2.1 pc = .ok (.irem, 1)) (hy : wr y = y') (hne : ¬ y' = 0) (h : J X fx n mc ms M Q a cs ss (pc + 1) L (vi (md x y) :: st) G) : J X fx n mc ms M Q a cs ss pc L (vi y :: vi x :: st) G := by
  intro p l e' s m args below meth c C H locs ls hz hF hP hS hl
  have := h (l := l) (e := e') (below := below) C hz hF hP hS hl
  rw [vi, md, Int32.ofInt_toInt] at this
  exact lv_irem C.1 C.2.1 d (fun e => hne ((c_eq0 hy).mp e)) this
theorem j_ldiv {x y y' : Int} (d : decode M.2.1 pc = .ok (.ldiv, 1)) (hy : wl y = y') (hne : ¬ y' = 0) (h : J X fx n mc ms M Q a cs ss (pc + 1) L (vl (ldv x y) :: st) G) : J X fx n mc ms M Q a cs ss pc L (vl y :: vl x :: st) G := by
  intro p l e' s m args below meth c C H locs ls hz hF hP hS hl
  have := h (l := l) (e := e') (below := below) C hz hF hP hS hl
  rw [vl, ldv, Int64.ofInt_toInt] at this
  exact lv_ldiv C.1 C.2.1 d (fun e => hne ((l_eq0 hy).mp e)) this
theorem j_lrem {x y y' : Int} (d : decode M.2.1 pc = .ok (.lrem, 1)) (hy : wl y = y') (hne : ¬ y' = 0) (h : J X fx n mc ms M Q a cs ss (pc + 1) L (vl (lmd x y) :: st) G) : J X fx n mc ms M Q a cs ss pc L (vl y :: vl x :: st) G := by
  intro p l e' s m args below meth c C H locs ls hz hF hP hS hl
  have := h (l := l) (e := e') (below := below) C hz hF hP hS hl
  rw [vl, lmd, Int64.ofInt_toInt] at this
  exact lv_lrem C.1 C.2.1 d (fun e => hne ((l_eq0 hy).mp e)) this
theorem j_i2l {x x' : Int} (d : decode M.2.1 pc = .ok (.i2l, 1)) (hx : wr x = x') (h : J X fx n mc ms M Q a cs ss (pc + 1) L (vl x' :: st) G) : J X fx n mc ms M Q a cs ss pc L (vi x :: st) G := by
  intro p l e' s m args below meth c C H locs ls hz hF hP hS hl
  refine lv_i2l C.1 C.2.1 d ?_ (h C hz hF hP hS hl)
  rw [← hx]; exact (Int64.ofInt_int32ToInt _).symm
theorem j_l2i {x : Int} (d : decode M.2.1 pc = .ok (.l2i, 1)) (h : J X fx n mc ms M Q a cs ss (pc + 1) L (vi x :: st) G) : J X fx n mc ms M Q a cs ss pc L (vl x :: st) G := by
  intro p l e' s m args below meth c C H locs ls hz hF hP hS hl
  exact lv_l2i C.1 C.2.1 d Int64.toInt32_ofInt (h C hz hF hP hS hl)
theorem j_i2b {x : Int} (d : decode M.2.1 pc = .ok (.i2b, 1)) (h : J X fx n mc ms M Q a cs ss (pc + 1) L (vi (w8 x) :: st) G) : J X fx n mc ms M Q a cs ss pc L (vi x :: st) G := by
  intro p l e' s m args below meth c C H locs ls hz hF hP hS hl
  exact lv_i2b C.1 C.2.1 d (Int32.ofInt_toInt _).symm (h C hz hF hP hS hl)
theorem j_i2c {x : Int} (d : decode M.2.1 pc = .ok (.i2c, 1)) (h : J X fx n mc ms M Q a cs ss (pc + 1) L (vi (w16 x) :: st) G) : J X fx n mc ms M Q a cs ss pc L (vi x :: st) G := by
  intro p l e' s m args below meth c C H locs ls hz hF hP hS hl
  exact lv_i2c C.1 C.2.1 d (Int32.ofInt_toInt _).symm (h C hz hF hP hS hl)
theorem j_lcmp {x y : Int} (d : decode M.2.1 pc = .ok (.lcmp, 1)) (h : J X fx n mc ms M Q a cs ss (pc + 1) L (vi (lc x y) :: st) G) : J X fx n mc ms M Q a cs ss pc L (vl y :: vl x :: st) G := by
  intro p l e' s m args below meth c C H locs ls hz hF hP hS hl
  have := h (l := l) (e := e') (below := below) C hz hF hP hS hl
  rw [vi, lc, Int32.ofInt_toInt] at this
  exact W.lcmp C.1 C.2.1 d this
theorem j_goto {off : Int} {tgt : Nat} (d : decode M.2.1 pc = .ok (.goto off, 3)) (ht : (pc : Int) + off = (tgt : Int)) (h : J X fx n mc ms M Q a cs ss tgt L st G) : J X fx n mc ms M Q a cs ss pc L st G := by
  intro p l e' s m args below meth c C H locs ls hz hF hP hS hl
  exact lv_goto C.1 C.2.1 d ht (h C hz hF hP hS hl)
theorem j_if_eq {x x' : Int} {off : Int} {tgt : Nat} (d : decode M.2.1 pc = .ok (.ifCond .eq off, 3)) (ht : (pc : Int) + off = (tgt : Int)) (hx : wr x = x') (kt : x' = 0 → J X fx n mc ms M Q a cs ss tgt L st G) (kf : ¬ x' = 0 → J X fx n mc ms M Q a cs ss (pc + 3) L st G) : J X fx n mc ms M Q a cs ss pc L (vi x :: st) G := by
  intro p l e' s m args below meth c C H locs ls hz hF hP hS hl
  exact lv_if_eq C.1 C.2.1 d ht (fun h => kt ((c_eq0 hx).mp h) C hz hF hP hS hl) (fun h => kf (fun h2 => h ((c_eq0 hx).mpr h2)) C hz hF hP hS hl)
theorem j_if_ne {x x' : Int} {off : Int} {tgt : Nat} (d : decode M.2.1 pc = .ok (.ifCond .ne off, 3)) (ht : (pc : Int) + off = (tgt : Int)) (hx : wr x = x') (kt : ¬ x' = 0 → J X fx n mc ms M Q a cs ss tgt L st G) (kf : x' = 0 → J X fx n mc ms M Q a cs ss (pc + 3) L st G) : J X fx n mc ms M Q a cs ss pc L (vi x :: st) G := by
  intro p l e' s m args below meth c C H locs ls hz hF hP hS hl
  exact lv_if_ne C.1 C.2.1 d ht (fun h => kt (fun h2 => h ((c_eq0 hx).mpr h2)) C hz hF hP hS hl) (fun h => kf ((c_eq0 hx).mp h) C hz hF hP hS hl)
theorem j_if_lt {x x' : Int} {off : Int} {tgt : Nat} (d : decode M.2.1 pc = .ok (.ifCond .lt off, 3)) (ht : (pc : Int) + off = (tgt : Int)) (hx : wr x = x') (kt : x' < 0 → J X fx n mc ms M Q a cs ss tgt L st G) (kf : ¬ x' < 0 → J X fx n mc ms M Q a cs ss (pc + 3) L st G) : J X fx n mc ms M Q a cs ss pc L (vi x :: st) G := by
  intro p l e' s m args below meth c C H locs ls hz hF hP hS hl
  exact lv_if_lt C.1 C.2.1 d ht (fun h => kt ((c_lt0 hx).mp h) C hz hF hP hS hl) (fun h => kf (fun h2 => h ((c_lt0 hx).mpr h2)) C hz hF hP hS hl)
theorem j_if_ge {x x' : Int} {off : Int} {tgt : Nat} (d : decode M.2.1 pc = .ok (.ifCond .ge off, 3)) (ht : (pc : Int) + off = (tgt : Int)) (hx : wr x = x') (kt : 0 ≤ x' → J X fx n mc ms M Q a cs ss tgt L st G) (kf : ¬ 0 ≤ x' → J X fx n mc ms M Q a cs ss (pc + 3) L st G) : J X fx n mc ms M Q a cs ss pc L (vi x :: st) G := by
  intro p l e' s m args below meth c C H locs ls hz hF hP hS hl
  exact lv_if_ge C.1 C.2.1 d ht (fun h => kt ((c_0le hx).mp h) C hz hF hP hS hl) (fun h => kf (fun h2 => h ((c_0le hx).mpr h2)) C hz hF hP hS hl)
theorem j_if_gt {x x' : Int} {off : Int} {tgt : Nat} (d : decode M.2.1 pc = .ok (.ifCond .gt off, 3)) (ht : (pc : Int) + off = (tgt : Int)) (hx : wr x = x') (kt : 0 < x' → J X fx n mc ms M Q a cs ss tgt L st G) (kf : ¬ 0 < x' → J X fx n mc ms M Q a cs ss (pc + 3) L st G) : J X fx n mc ms M Q a cs ss pc L (vi x :: st) G := by
  intro p l e' s m args below meth c C H locs ls hz hF hP hS hl
  exact lv_if_gt C.1 C.2.1 d ht (fun h => kt ((c_0lt hx).mp h) C hz hF hP hS hl) (fun h => kf (fun h2 => h ((c_0lt hx).mpr h2)) C hz hF hP hS hl)
theorem j_if_le {x x' : Int} {off : Int} {tgt : Nat} (d : decode M.2.1 pc = .ok (.ifCond .le off, 3)) (ht : (pc : Int) + off = (tgt : Int)) (hx : wr x = x') (kt : x' ≤ 0 → J X fx n mc ms M Q a cs ss tgt L st G) (kf : ¬ x' ≤ 0 → J X fx n mc ms M Q a cs ss (pc + 3) L st G) : J X fx n mc ms M Q a cs ss pc L (vi x :: st) G := by
  intro p l e' s m args below meth c C H locs ls hz hF hP hS hl
  exact lv_if_le C.1 C.2.1 d ht (fun h => kt ((c_le0 hx).mp h) C hz hF hP hS hl) (fun h => kf (fun h2 => h ((c_le0 hx).mpr h2)) C hz hF hP hS hl)
theorem j_ic_eq {x y x' y' : Int} {off : Int} {tgt : Nat} (d : decode M.2.1 pc = .ok (.if_icmp .eq off, 3)) (ht : (pc : Int) + off = (tgt : Int)) (hx : wr x = x') (hy : wr y = y') (kt : x' = y' → J X fx n mc ms M Q a cs ss tgt L st G) (kf : ¬ x' = y' → J X fx n mc ms M Q a cs ss (pc + 3) L st G) : J X fx n mc ms M Q a cs ss pc L (vi y :: vi x :: st) G := by
  intro p l e' s m args below meth c C H locs ls hz hF hP hS hl
  exact lv_icmp_eq C.1 C.2.1 d ht (fun h => kt ((c_eq hx hy).mp h) C hz hF hP hS hl) (fun h => kf (fun h2 => h ((c_eq hx hy).mpr h2)) C hz hF hP hS hl)
theorem j_ic_ne {x y x' y' : Int} {off : Int} {tgt : Nat} (d : decode M.2.1 pc = .ok (.if_icmp .ne off, 3)) (ht : (pc : Int) + off = (tgt : Int)) (hx : wr x = x') (hy : wr y = y') (kt : ¬ x' = y' → J X fx n mc ms M Q a cs ss tgt L st G) (kf : x' = y' → J X fx n mc ms M Q a cs ss (pc + 3) L st G) : J X fx n mc ms M Q a cs ss pc L (vi y :: vi x :: st) G := by
  intro p l e' s m args below meth c C H locs ls hz hF hP hS hl
  exact lv_icmp_ne C.1 C.2.1 d ht (fun h => kt (fun h2 => h ((c_eq hx hy).mpr h2)) C hz hF hP hS hl) (fun h => kf ((c_eq hx hy).mp h) C hz hF hP hS hl)
theorem j_ic_lt {x y x' y' : Int} {off : Int} {tgt : Nat} (d : decode M.2.1 pc = .ok (.if_icmp .lt off, 3)) (ht : (pc : Int) + off = (tgt : Int)) (hx : wr x = x') (hy : wr y = y') (kt : x' < y' → J X fx n mc ms M Q a cs ss tgt L st G) (kf : ¬ x' < y' → J X fx n mc ms M Q a cs ss (pc + 3) L st G) : J X fx n mc ms M Q a cs ss pc L (vi y :: vi x :: st) G := by
  intro p l e' s m args below meth c C H locs ls hz hF hP hS hl
  exact lv_icmp_lt C.1 C.2.1 d ht (fun h => kt ((c_lt hx hy).mp h) C hz hF hP hS hl) (fun h => kf (fun h2 => h ((c_lt hx hy).mpr h2)) C hz hF hP hS hl)
theorem j_ic_ge {x y x' y' : Int} {off : Int} {tgt : Nat} (d : decode M.2.1 pc = .ok (.if_icmp .ge off, 3)) (ht : (pc : Int) + off = (tgt : Int)) (hx : wr x = x') (hy : wr y = y') (kt : y' ≤ x' → J X fx n mc ms M Q a cs ss tgt L st G) (kf : ¬ y' ≤ x' → J X fx n mc ms M Q a cs ss (pc + 3) L st G) : J X fx n mc ms M Q a cs ss pc L (vi y :: vi x :: st) G := by
  intro p l e' s m args below meth c C H locs ls hz hF hP hS hl
  exact lv_icmp_ge C.1 C.2.1 d ht (fun h => kt ((c_le hy hx).mp h) C hz hF hP hS hl) (fun h => kf (fun h2 => h ((c_le hy hx).mpr h2)) C hz hF hP hS hl)
theorem j_ic_gt {x y x' y' : Int} {off : Int} {tgt : Nat} (d : decode M.2.1 pc = .ok (.if_icmp .gt off, 3)) (ht : (pc : Int) + off = (tgt : Int)) (hx : wr x = x') (hy : wr y = y') (kt : y' < x' → J X fx n mc ms M Q a cs ss tgt L st G) (kf : ¬ y' < x' → J X fx n mc ms M Q a cs ss (pc + 3) L st G) : J X fx n mc ms M Q a cs ss pc L (vi y :: vi x :: st) G := by
  intro p l e' s m args below meth c C H locs ls hz hF hP hS hl
  exact lv_icmp_gt C.1 C.2.1 d ht (fun h => kt ((c_lt hy hx).mp h) C hz hF hP hS hl) (fun h => kf (fun h2 => h ((c_lt hy hx).mpr h2)) C hz hF hP hS hl)
theorem j_ic_le {x y x' y' : Int} {off : Int} {tgt : Nat} (d : decode M.2.1 pc = .ok (.if_icmp .le off, 3)) (ht : (pc : Int) + off = (tgt : Int)) (hx : wr x = x') (hy : wr y = y') (kt : x' ≤ y' → J X fx n mc ms M Q a cs ss tgt L st G) (kf : ¬ x' ≤ y' → J X fx n mc ms M Q a cs ss (pc + 3) L st G) : J X fx n mc ms M Q a cs ss pc L (vi y :: vi x :: st) G := by
  intro p l e' s m args below meth c C H locs ls hz hF hP hS hl
  exact lv_icmp_le C.1 C.2.1 d ht (fun h => kt ((c_le hx hy).mp h) C hz hF hP hS hl) (fun h => kf (fun h2 => h ((c_le hx hy).mpr h2)) C hz hF hP hS hl)
/-- a tableswitch: the offset that is taken -/
theorem j_table {x x' dflt lo hi : Int} {offs : Array Int} {len : Nat} (d : decode M.2.1 pc = .ok (.tableswitch dflt lo hi offs, len)) (hx : wr x = x') (hsz : offs.size = (hi - lo + 1).toNat)
    (kin : ∀ (off : Int) (tgt : Nat), lo ≤ x' → x' ≤ hi → offs[(x' - lo).toNat]? = some off → (pc : Int) + off = (tgt : Int) → J X fx n mc ms M Q a cs ss tgt L st G)
    (kout : ∀ (tgt : Nat), (x' < lo ∨ hi < x') → (pc : Int) + dflt = (tgt : Int) → J X fx n mc ms M Q a cs ss tgt L st G) (hpos : ∀ off ∈ offs.toList, 0 ≤ (pc : Int) + off) (hposd : 0 ≤ (pc : Int) + dflt) : J X fx n mc ms M Q a cs ss pc L (vi x :: st) G := by
  intro p l e' s m args below meth c C H locs ls hz hF hP hS hl
  have hxt : (Int32.ofInt x).toInt = x' := hx
  by_cases h1 : x' < lo
  · exact lv_tableOut (tgt := ((pc : Int) + dflt).toNat) C.1 C.2.1 d (by rw [hxt]; exact Or.inl h1) (by omega) (kout _ (Or.inl h1) (by omega) C hz hF hP hS hl)
  · by_cases h2 : hi < x'
    · exact lv_tableOut (tgt := ((pc : Int) + dflt).toNat) C.1 C.2.1 d (by rw [hxt]; exact Or.inr h2) (by omega) (kout _ (Or.inr h2) (by omega) C hz hF hP hS hl)
    · have hi3 : (x' - lo).toNat < offs.size := by rw [hsz]; omega
      have ho : offs[(x' - lo).toNat]? = some offs[(x' - lo).toNat] := Array.getElem?_eq_getElem hi3
      have hp := hpos offs[(x' - lo).toNat] (by simp)
      exact lv_tableIn (tgt := ((pc : Int) + offs[(x' - lo).toNat]).toNat) C.1 C.2.1 d (by rw [hxt]; omega) (by rw [hxt]; omega) (by rw [hxt]; exact ho) (by omega) (kin _ _ (by omega) (by omega) ho (by omega) C hz hF hP hS hl)
theorem j_lookup {x x' dflt off : Int} {ps : Array (Int × Int)} {len tgt : Nat} (d : decode M.2.1 pc = .ok (.lookupswitch dflt ps, len)) (hx : wr x = x') (hp : (ps.toList.zip (ps.toList.drop 1)).all (fun (a, next) => a.1 < next.1) = true) (ho : Op.lookupswitch.offset ps.toList dflt x' = off) (ht : (pc : Int) + off = (tgt : Int)) (h : J X fx n mc ms M Q a cs ss tgt L st G) : J X fx n mc ms M Q a cs ss pc L (vi x :: st) G := by
  intro p l e' s m args below meth c C H locs ls hz hF hP hS hl
  have hxt : (Int32.ofInt x).toInt = x' := hx
  exact lv_lookup C.1 C.2.1 d hp (by rw [hxt]; exact ho) ht (h C hz hF hP hS hl)
theorem j_get {own : String} {idx ci k c0 N : Nat} {fin : Bool} {τ : FieldType} {v : Value} (hown : M.1.cls = own) (fa : FA own idx ci k fin τ) (hc : kd c0 = (ci + 5, N)) (hca : c0 < a) (hk : k < N) (hv : fV X G c0 ci k = v) (d : decode M.2.1 pc = .ok (.getfield idx, 3)) (h : J X fx n mc ms M Q a cs ss (pc + 3) L (v :: st) G) : J X fx n mc ms M Q a cs ss pc L (rf X c0 :: st) G := by
  intro p l e' s m args below meth c C H locs ls hz hF hP hS hl
  obtain ⟨K, T, N', ty, ⟨q1, q2, q3, q4, q5⟩, q6, q7, -⟩ := fa
  subst hown
  exact va_get C.1 C.2.1 C.2.2.2.2.2.2.1 q2 C.2.2.2.2.2.1 C.2.2.2.2.2.2.2.1 hP c0 (by rw [wsG_get hca, wE_o hc]) q1 k q6 (C.2.2.2.2.2.2.1 _ q7) (by rw [q5 k q6]; exact fun _ h => h) (by simp [hk, hv]) d (h C hz hF hP hS hl)
theorem j_getI {own : String} {idx ci k c0 N : Nat} {fin : Bool} {τ : FieldType} (hown : M.1.cls = own) (fa : FA own idx ci k fin τ) (hc : kd c0 = (ci + 5, N)) (hca : c0 < a) (hk : k < N) (hf : ft ci k = 0) (d : decode M.2.1 pc = .ok (.getfield idx, 3)) (h : J X fx n mc ms M Q a cs ss (pc + 3) L (vi (gi G c0 k) :: st) G) : J X fx n mc ms M Q a cs ss pc L (rf X c0 :: st) G :=
  j_get hown fa hc hca hk (by rw [fV, if_pos hf, gi, vi_wr]) d h
theorem j_getJ {own : String} {idx ci k c0 N : Nat} {fin : Bool} {τ : FieldType} (hown : M.1.cls = own) (fa : FA own idx ci k fin τ) (hc : kd c0 = (ci + 5, N)) (hca : c0 < a) (hk : k < N) (hf : ft ci k = 1) (d : decode M.2.1 pc = .ok (.getfield idx, 3)) (h : J X fx n mc ms M Q a cs ss (pc + 3) L (vl (gl G c0 k) :: st) G) : J X fx n mc ms M Q a cs ss pc L (rf X c0 :: st) G :=
  j_get hown fa hc hca hk (by rw [fV, if_neg (by omega), if_pos hf, gl, vl_wl]) d h
theorem pv_rf {X : XT} {q : Nat} (h : q ≠ 0) : pv X q = rf X q := by simp [pv, po, h, rf, va_rf]
/-- a reference whose target is known of every store -/
theorem j_getR {own : String} {idx ci k c0 N t : Nat} {fin : Bool} {τ : FieldType} (hown : M.1.cls = own) (fa : FA own idx ci k fin τ) (hc : kd c0 = (ci + 5, N)) (hca : c0 < a) (hk : k < N) (hf : ft ci k = 2) (ht : WF fx a G → G.2.2 c0 k = t) (h0 : t ≠ 0) (d : decode M.2.1 pc = .ok (.getfield idx, 3)) (h : J X fx n mc ms M Q a cs ss (pc + 3) L (rf X t :: st) G) : J X fx n mc ms M Q a cs ss pc L (rf X c0 :: st) G := by
  intro p l e' s m args below meth c C H locs ls hz hF hP hS hl
  exact j_get hown fa hc hca hk (by rw [fV, if_neg (by omega), if_neg (by omega), ht hF, pv_rf h0]) d h C hz hF hP hS hl
end JR2
