/-! what the printed walks use -/
theorem none_some {α : Type} {r : α} {P : Prop} (h : (none : Option α) = some r) : P := by cases h
def wG {α : Type} (g : GS) (f : GS → α) : α := f g
theorem wG_at {α : Type} {g G1 : GS} {f : GS → α} {r : α} (h : wG g f = r) (e : G1 = g) : f G1 = r := by subst e; exact h
def FU : Nat := 40000
def inb (x : Int) : Bool := decide (-2147483648 ≤ x) && decide (x < 2147483648)
def inbl (x : Int) : Bool := decide (-9223372036854775808 ≤ x) && decide (x < 9223372036854775808)
theorem wr_lit {x : Int} (h : inb x = true) : wr x = x := by
  unfold inb at h
  simp only [Bool.and_eq_true, decide_eq_true_eq] at h
  exact wr_of h.1 h.2
theorem wl_lit {x : Int} (h : inbl x = true) : wl x = x := by
  unfold inbl at h
  simp only [Bool.and_eq_true, decide_eq_true_eq] at h
  exact wl_of h.1 h.2
theorem wr_n {x x' : Int} (h : wr x = x') : wr x' = x' := by rw [← h, wr_wr]
theorem wl_n {x x' : Int} (h : wl x = x') : wl x' = x' := by rw [← h, wl_wl]
/-- the answers -/
def Ri (r : Int) (G1 : GS) : Option Value → Nat → GS → Prop := fun v a G => v = some (vi r) ∧ a = NC ∧ G = G1 ∧ wr r = r
def Rz (r : Int) (G1 : GS) : Option Value → Nat → GS → Prop := fun v a G => v = some (vi r) ∧ a = NC ∧ G = G1 ∧ wr r = r ∧ (r = 0 ∨ r = 1)
def Rl (r : Int) (G1 : GS) : Option Value → Nat → GS → Prop := fun v a G => v = some (vl r) ∧ a = NC ∧ G = G1 ∧ wl r = r
def Rv (G1 : GS) : Option Value → Nat → GS → Prop := fun v a G => v = none ∧ a = NC ∧ G = G1
def Rr (X : XT) (r : Nat) (G1 : GS) : Option Value → Nat → GS → Prop := fun v a G => v = some (rf X r) ∧ a = NC ∧ G = G1 ∧ lawC r = true
theorem leafI {x : Int} {r : Int × GS} {G : GS} (h : some (x, G) = some r) (hx : wr x = x) : Ri r.1 r.2 (some (vi x)) NC G := by cases h; exact ⟨rfl, rfl, rfl, hx⟩
theorem leafIo {x r : Int} {G : GS} (h : some x = some r) (hx : wr x = x) : Ri r G (some (vi x)) NC G := by cases h; exact ⟨rfl, rfl, rfl, hx⟩
theorem leafZ {x : Int} {r : Int × GS} {G : GS} (h : some (x, G) = some r) (hx : wr x = x) (hb : x = 0 ∨ x = 1) : Rz r.1 r.2 (some (vi x)) NC G := by cases h; exact ⟨rfl, rfl, rfl, hx, hb⟩
theorem leafZo {x r : Int} {G : GS} (h : some x = some r) (hx : wr x = x) (hb : x = 0 ∨ x = 1) : Rz r G (some (vi x)) NC G := by cases h; exact ⟨rfl, rfl, rfl, hx, hb⟩
theorem leafL {x : Int} {r : Int × GS} {G : GS} (h : some (x, G) = some r) (hx : wl x = x) : Rl r.1 r.2 (some (vl x)) NC G := by cases h; exact ⟨rfl, rfl, rfl, hx⟩
theorem leafLo {x r : Int} {G : GS} (h : some x = some r) (hx : wl x = x) : Rl r G (some (vl x)) NC G := by cases h; exact ⟨rfl, rfl, rfl, hx⟩
theorem leafV {G G1 : GS} (h : some G = some G1) : Rv G1 none NC G := by cases h; exact ⟨rfl, rfl, rfl⟩
theorem leafVo {G : GS} {r : Unit} (h : some () = some r) : Rv G none NC G := ⟨rfl, rfl, rfl⟩
theorem leafR {X : XT} {x : Nat} {r : Nat × GS} {G : GS} (h : some (x, G) = some r) (hx : lawC x = true) : Rr X r.1 r.2 (some (rf X x)) NC G := by cases h; exact ⟨rfl, rfl, rfl, hx⟩
theorem leafRo {X : XT} {x r : Nat} {G : GS} (h : some x = some r) (hx : lawC x = true) : Rr X r G (some (rf X x)) NC G := by cases h; exact ⟨rfl, rfl, rfl, hx⟩
theorem law_kd1 {c : Nat} (h : lawC c = true) : kd (c + 1) = (0, 4) ∧ c + 1 < NC := by
  unfold lawC at h
  simp only [Bool.or_eq_true, beq_iff_eq] at h
  rcases h with (((h | h) | h) | h) | h <;> subst h <;> decide
theorem law_kd2 {c : Nat} (h : lawC c = true) : kd (c + 2) = (0, 3) ∧ c + 2 < NC := by
  unfold lawC at h
  simp only [Bool.or_eq_true, beq_iff_eq] at h
  rcases h with (((h | h) | h) | h) | h <;> subst h <;> decide
theorem law_kd3 {c : Nat} (h : lawC c = true) : kd (c + 3) = (0, 3) ∧ c + 3 < NC := by
  unfold lawC at h
  simp only [Bool.or_eq_true, beq_iff_eq] at h
  rcases h with (((h | h) | h) | h) | h <;> subst h <;> decide
theorem law_kd4 {c : Nat} (h : lawC c = true) : kd (c + 4) = (0, 3) ∧ c + 4 < NC := by
  unfold lawC at h
  simp only [Bool.or_eq_true, beq_iff_eq] at h
  rcases h with (((h | h) | h) | h) | h <;> subst h <;> decide
theorem law_kd5 {c : Nat} (h : lawC c = true) : kd (c + 5) = (0, 800) ∧ c + 5 < NC := by
  unfold lawC at h
  simp only [Bool.or_eq_true, beq_iff_eq] at h
  rcases h with (((h | h) | h) | h) | h <;> subst h <;> decide
theorem law_fx {G : GS} {c : Nat} (w : WF true NC G) (h : lawC c = true) : G.2.2 c 0 = c + 1 ∧ G.2.2 c 1 = c + 2 ∧ G.2.2 c 2 = c + 3 ∧ G.2.2 c 3 = c + 4 ∧ G.2.2 c 8 = c + 5 := by
  have hw := w.2 rfl
  unfold lawC at h
  simp only [Bool.or_eq_true, beq_iff_eq] at h
  rcases h with (((h | h) | h) | h) | h <;> subst h
  · exact ⟨hw (50, 0, 51) (by decide), hw (50, 1, 52) (by decide), hw (50, 2, 53) (by decide), hw (50, 3, 54) (by decide), hw (50, 8, 55) (by decide)⟩
  · exact ⟨hw (56, 0, 57) (by decide), hw (56, 1, 58) (by decide), hw (56, 2, 59) (by decide), hw (56, 3, 60) (by decide), hw (56, 8, 61) (by decide)⟩
  · exact ⟨hw (62, 0, 63) (by decide), hw (62, 1, 64) (by decide), hw (62, 2, 65) (by decide), hw (62, 3, 66) (by decide), hw (62, 8, 67) (by decide)⟩
  · exact ⟨hw (68, 0, 69) (by decide), hw (68, 1, 70) (by decide), hw (68, 2, 71) (by decide), hw (68, 3, 72) (by decide), hw (68, 8, 73) (by decide)⟩
  · exact ⟨hw (75, 0, 76) (by decide), hw (75, 1, 77) (by decide), hw (75, 2, 78) (by decide), hw (75, 3, 79) (by decide), hw (75, 8, 80) (by decide)⟩
theorem law_fx1 {G : GS} {c : Nat} (w : WF true NC G) (h : lawC c = true) : G.2.2 c 0 = c + 1 := (law_fx w h).1
theorem law_fx2 {G : GS} {c : Nat} (w : WF true NC G) (h : lawC c = true) : G.2.2 c 1 = c + 2 := (law_fx w h).2.1
theorem law_fx3 {G : GS} {c : Nat} (w : WF true NC G) (h : lawC c = true) : G.2.2 c 2 = c + 3 := (law_fx w h).2.2.1
theorem law_fx4 {G : GS} {c : Nat} (w : WF true NC G) (h : lawC c = true) : G.2.2 c 3 = c + 4 := (law_fx w h).2.2.2.1
theorem law_fx5 {G : GS} {c : Nat} (w : WF true NC G) (h : lawC c = true) : G.2.2 c 8 = c + 5 := (law_fx w h).2.2.2.2
-- decoding, by a table
def dOK (b : ByteArray) (t : List (Nat × Instr × Nat)) : Bool := t.all fun q => match decode b q.1 with
  | .ok r => decide (r = q.2)
  | .error _ => false
theorem dec_of {b : ByteArray} {t : List (Nat × Instr × Nat)} (h : dOK b t = true) (i : Nat) {pc len : Nat} {ins : Instr} (hi : t[i]? = some (pc, ins, len)) : decode b pc = .ok (ins, len) := by
  have h1 := List.all_eq_true.mp h _ (List.mem_of_getElem? hi)
  simp only at h1
  split at h1
  · rename_i r hr
    rw [hr]
    have := of_decide_eq_true h1
    rw [this]
  · cases h1
section JH
variable {X : XT} {fx : Bool} {n mc ms : Nat} {M : MI} {Q : Option Value → Nat → GS → Prop} {a cs ss pc : Nat} {L : List (Nat × Value)} {st : List Value} {G : GS}
theorem j_gen (h : ∀ G1 : GS, G1 = G → J X fx n mc ms M Q a cs ss pc L st G1) : J X fx n mc ms M Q a cs ss pc L st G := h G rfl
theorem j_top0 {x x' : Int} (hx : wr x = x') (h : J X fx n mc ms M Q a cs ss pc L (vi x' :: st) G) : J X fx n mc ms M Q a cs ss pc L (vi x :: st) G := by rw [vi_eq hx]; exact h
theorem j_top1 {s0 : Value} {x x' : Int} (hx : wr x = x') (h : J X fx n mc ms M Q a cs ss pc L (s0 :: vi x' :: st) G) : J X fx n mc ms M Q a cs ss pc L (s0 :: vi x :: st) G := by rw [vi_eq hx]; exact h
theorem j_top2 {s0 s1 : Value} {x x' : Int} (hx : wr x = x') (h : J X fx n mc ms M Q a cs ss pc L (s0 :: s1 :: vi x' :: st) G) : J X fx n mc ms M Q a cs ss pc L (s0 :: s1 :: vi x :: st) G := by rw [vi_eq hx]; exact h
theorem j_top3 {s0 s1 s2 : Value} {x x' : Int} (hx : wr x = x') (h : J X fx n mc ms M Q a cs ss pc L (s0 :: s1 :: s2 :: vi x' :: st) G) : J X fx n mc ms M Q a cs ss pc L (s0 :: s1 :: s2 :: vi x :: st) G := by rw [vi_eq hx]; exact h
theorem j_top4 {s0 s1 s2 s3 : Value} {x x' : Int} (hx : wr x = x') (h : J X fx n mc ms M Q a cs ss pc L (s0 :: s1 :: s2 :: s3 :: vi x' :: st) G) : J X fx n mc ms M Q a cs ss pc L (s0 :: s1 :: s2 :: s3 :: vi x :: st) G := by rw [vi_eq hx]; exact h
theorem j_top0l {x x' : Int} (hx : wl x = x') (h : J X fx n mc ms M Q a cs ss pc L (vl x' :: st) G) : J X fx n mc ms M Q a cs ss pc L (vl x :: st) G := by rw [vl_eq hx]; exact h
theorem j_top1l {s0 : Value} {x x' : Int} (hx : wl x = x') (h : J X fx n mc ms M Q a cs ss pc L (s0 :: vl x' :: st) G) : J X fx n mc ms M Q a cs ss pc L (s0 :: vl x :: st) G := by rw [vl_eq hx]; exact h
theorem j_tIn {x x' v dflt lo hi off : Int} {offs : Array Int} {len tgt : Nat} (d : decode M.2.1 pc = .ok (.tableswitch dflt lo hi offs, len)) (hx : wr x = x') (hv : x' = v) (h1 : ¬ v < lo) (h2 : ¬ hi < v) (ho : offs[(v - lo).toNat]? = some off) (ht : (pc : Int) + off = (tgt : Int)) (h : J X fx n mc ms M Q a cs ss tgt L st G) : J X fx n mc ms M Q a cs ss pc L (vi x :: st) G := by
  intro p l e' s m args below meth c C H locs ls hz hF hP hS hl
  have hxt : (Int32.ofInt x).toInt = v := hx.trans hv
  exact lv_tableIn C.1 C.2.1 d (by rw [hxt]; exact h1) (by rw [hxt]; exact h2) (by rw [hxt]; exact ho) ht (h C hz hF hP hS hl)
theorem j_tOut {x x' dflt lo hi : Int} {offs : Array Int} {len tgt : Nat} (d : decode M.2.1 pc = .ok (.tableswitch dflt lo hi offs, len)) (hx : wr x = x') (hv : x' < lo ∨ hi < x') (ht : (pc : Int) + dflt = (tgt : Int)) (h : J X fx n mc ms M Q a cs ss tgt L st G) : J X fx n mc ms M Q a cs ss pc L (vi x :: st) G := by
  intro p l e' s m args below meth c C H locs ls hz hF hP hS hl
  have hxt : (Int32.ofInt x).toInt = x' := hx
  exact lv_tableOut C.1 C.2.1 d (by rw [hxt]; exact hv) ht (h C hz hF hP hS hl)
theorem j_lIn {x x' v dflt off : Int} {ps : Array (Int × Int)} {len tgt : Nat} (d : decode M.2.1 pc = .ok (.lookupswitch dflt ps, len)) (hx : wr x = x') (hv : x' = v) (hp : (ps.toList.zip (ps.toList.drop 1)).all (fun (a, next) => a.1 < next.1) = true) (ho : Op.lookupswitch.offset ps.toList dflt v = off) (ht : (pc : Int) + off = (tgt : Int)) (h : J X fx n mc ms M Q a cs ss tgt L st G) : J X fx n mc ms M Q a cs ss pc L (vi x :: st) G := by
  subst hv; exact j_lookup d hx hp ho ht h
theorem lk_out (ps : List (Int × Int)) (dflt x : Int) (h : ∀ q ∈ ps, ¬ x = q.1) : Op.lookupswitch.offset ps dflt x = dflt := by
  induction ps with
  | nil => rfl
  | cons q t ih =>
    obtain ⟨k, o⟩ := q
    rw [Op.lookupswitch.offset_cons, if_neg (fun e => h (k, o) List.mem_cons_self e.symm)]
    exact ih (fun q hq => h q (List.mem_cons_of_mem _ hq))
theorem j_lOut {x x' dflt : Int} {ps : Array (Int × Int)} {len tgt : Nat} (d : decode M.2.1 pc = .ok (.lookupswitch dflt ps, len)) (hx : wr x = x') (hp : (ps.toList.zip (ps.toList.drop 1)).all (fun (a, next) => a.1 < next.1) = true) (ho : ∀ q ∈ ps.toList, ¬ x' = q.1) (ht : (pc : Int) + dflt = (tgt : Int)) (h : J X fx n mc ms M Q a cs ss tgt L st G) : J X fx n mc ms M Q a cs ss pc L (vi x :: st) G :=
  j_lookup d hx hp (lk_out _ _ _ ho) ht h
end JH
section JW
variable {X : XT} {n : Nat} {M : MI} {Q : Option Value → Nat → GS → Prop} {pc : Nat} {L : List (Nat × Value)} {st st0 As : List Value} {G G1 : GS} {own : String} {idx kk n' ci c0 N N' : Nat} {T : u_T} {M' : MI}
theorem j_cVi {r : Int} (hC : Call X true n' 0 0 M' (rf X c0 :: As) NC G (Ri r G1)) (hown : M.1.cls = own) (hl0 : Cond.methodLink own idx M'.1 ∈ TS) (hM : MOK M' kk) (hc : kd c0 = (ci + 5, N)) (hca : c0 < NC) (hcl : clsL[ci]? = some (M'.1.cls, T, N')) (hn : n' + 1 ≤ n) (hlen : As.length = kk) (hst : st0 = As.reverse ++ rf X c0 :: st) (hstk : (st.map fun v => v.category).sum ≤ 8) (d : decode M.2.1 pc = .ok (.invokevirtual idx, 3)) (k : wr r = r → J X true n 0 0 M Q NC 0 0 (pc + 3) L (vi r :: st) G1) : J X true n 0 0 M Q NC 0 0 pc L st0 G :=
  j_callV hown hl0 hM hc hcl hca hn ⟨Nat.le_refl _, Nat.le_refl _⟩ hlen hst hstk hC d (fun v a' G' q => by obtain ⟨rfl, rfl, rfl, q⟩ := q; exact k q)
theorem j_cVz {r : Int} (hC : Call X true n' 0 0 M' (rf X c0 :: As) NC G (Rz r G1)) (hown : M.1.cls = own) (hl0 : Cond.methodLink own idx M'.1 ∈ TS) (hM : MOK M' kk) (hc : kd c0 = (ci + 5, N)) (hca : c0 < NC) (hcl : clsL[ci]? = some (M'.1.cls, T, N')) (hn : n' + 1 ≤ n) (hlen : As.length = kk) (hst : st0 = As.reverse ++ rf X c0 :: st) (hstk : (st.map fun v => v.category).sum ≤ 8) (d : decode M.2.1 pc = .ok (.invokevirtual idx, 3)) (k : wr r = r → (r = 0 ∨ r = 1) → J X true n 0 0 M Q NC 0 0 (pc + 3) L (vi r :: st) G1) : J X true n 0 0 M Q NC 0 0 pc L st0 G :=
  j_callV hown hl0 hM hc hcl hca hn ⟨Nat.le_refl _, Nat.le_refl _⟩ hlen hst hstk hC d (fun v a' G' q => by obtain ⟨rfl, rfl, rfl, q, b⟩ := q; exact k q b)
theorem j_cVl {r : Int} (hC : Call X true n' 0 0 M' (rf X c0 :: As) NC G (Rl r G1)) (hown : M.1.cls = own) (hl0 : Cond.methodLink own idx M'.1 ∈ TS) (hM : MOK M' kk) (hc : kd c0 = (ci + 5, N)) (hca : c0 < NC) (hcl : clsL[ci]? = some (M'.1.cls, T, N')) (hn : n' + 1 ≤ n) (hlen : As.length = kk) (hst : st0 = As.reverse ++ rf X c0 :: st) (hstk : (st.map fun v => v.category).sum ≤ 8) (d : decode M.2.1 pc = .ok (.invokevirtual idx, 3)) (k : wl r = r → J X true n 0 0 M Q NC 0 0 (pc + 3) L (vl r :: st) G1) : J X true n 0 0 M Q NC 0 0 pc L st0 G :=
  j_callV hown hl0 hM hc hcl hca hn ⟨Nat.le_refl _, Nat.le_refl _⟩ hlen hst hstk hC d (fun v a' G' q => by obtain ⟨rfl, rfl, rfl, q⟩ := q; exact k q)
theorem j_cVr {r : Nat} (hC : Call X true n' 0 0 M' (rf X c0 :: As) NC G (Rr X r G1)) (hown : M.1.cls = own) (hl0 : Cond.methodLink own idx M'.1 ∈ TS) (hM : MOK M' kk) (hc : kd c0 = (ci + 5, N)) (hca : c0 < NC) (hcl : clsL[ci]? = some (M'.1.cls, T, N')) (hn : n' + 1 ≤ n) (hlen : As.length = kk) (hst : st0 = As.reverse ++ rf X c0 :: st) (hstk : (st.map fun v => v.category).sum ≤ 8) (d : decode M.2.1 pc = .ok (.invokevirtual idx, 3)) (k : lawC r = true → J X true n 0 0 M Q NC 0 0 (pc + 3) L (rf X r :: st) G1) : J X true n 0 0 M Q NC 0 0 pc L st0 G :=
  j_callV hown hl0 hM hc hcl hca hn ⟨Nat.le_refl _, Nat.le_refl _⟩ hlen hst hstk hC d (fun v a' G' q => by obtain ⟨rfl, rfl, rfl, q⟩ := q; exact k q)
theorem j_cVv (hC : Call X true n' 0 0 M' (rf X c0 :: As) NC G (Rv G1)) (hown : M.1.cls = own) (hl0 : Cond.methodLink own idx M'.1 ∈ TS) (hM : MOK M' kk) (hc : kd c0 = (ci + 5, N)) (hca : c0 < NC) (hcl : clsL[ci]? = some (M'.1.cls, T, N')) (hn : n' + 1 ≤ n) (hlen : As.length = kk) (hst : st0 = As.reverse ++ rf X c0 :: st) (hstk : (st.map fun v => v.category).sum ≤ 8) (d : decode M.2.1 pc = .ok (.invokevirtual idx, 3)) (k : J X true n 0 0 M Q NC 0 0 (pc + 3) L st G1) : J X true n 0 0 M Q NC 0 0 pc L st0 G :=
  j_callV hown hl0 hM hc hcl hca hn ⟨Nat.le_refl _, Nat.le_refl _⟩ hlen hst hstk hC d (fun v a' G' q => by obtain ⟨rfl, rfl, rfl⟩ := q; exact k)
theorem j_cSi {r : Int} (hC : Call X true n' 0 0 M' As NC G (Ri r G1)) (hown : M.1.cls = own) (hl0 : Cond.methodLink own idx M'.1 ∈ TS) (hM : SOK M' kk) (hn : n' + 1 ≤ n) (hlen : As.length = kk) (hst : st0 = As.reverse ++ st) (hstk : (st.map fun v => v.category).sum ≤ 8) (d : decode M.2.1 pc = .ok (.invokestatic idx, 3)) (k : wr r = r → J X true n 0 0 M Q NC 0 0 (pc + 3) L (vi r :: st) G1) : J X true n 0 0 M Q NC 0 0 pc L st0 G :=
  j_callS hown hl0 hM hn ⟨Nat.le_refl _, Nat.le_refl _⟩ hlen hst hstk hC d (fun v a' G' q => by obtain ⟨rfl, rfl, rfl, q⟩ := q; exact k q)
theorem j_cSz {r : Int} (hC : Call X true n' 0 0 M' As NC G (Rz r G1)) (hown : M.1.cls = own) (hl0 : Cond.methodLink own idx M'.1 ∈ TS) (hM : SOK M' kk) (hn : n' + 1 ≤ n) (hlen : As.length = kk) (hst : st0 = As.reverse ++ st) (hstk : (st.map fun v => v.category).sum ≤ 8) (d : decode M.2.1 pc = .ok (.invokestatic idx, 3)) (k : wr r = r → (r = 0 ∨ r = 1) → J X true n 0 0 M Q NC 0 0 (pc + 3) L (vi r :: st) G1) : J X true n 0 0 M Q NC 0 0 pc L st0 G :=
  j_callS hown hl0 hM hn ⟨Nat.le_refl _, Nat.le_refl _⟩ hlen hst hstk hC d (fun v a' G' q => by obtain ⟨rfl, rfl, rfl, q, b⟩ := q; exact k q b)
theorem j_cSl {r : Int} (hC : Call X true n' 0 0 M' As NC G (Rl r G1)) (hown : M.1.cls = own) (hl0 : Cond.methodLink own idx M'.1 ∈ TS) (hM : SOK M' kk) (hn : n' + 1 ≤ n) (hlen : As.length = kk) (hst : st0 = As.reverse ++ st) (hstk : (st.map fun v => v.category).sum ≤ 8) (d : decode M.2.1 pc = .ok (.invokestatic idx, 3)) (k : wl r = r → J X true n 0 0 M Q NC 0 0 (pc + 3) L (vl r :: st) G1) : J X true n 0 0 M Q NC 0 0 pc L st0 G :=
  j_callS hown hl0 hM hn ⟨Nat.le_refl _, Nat.le_refl _⟩ hlen hst hstk hC d (fun v a' G' q => by obtain ⟨rfl, rfl, rfl, q⟩ := q; exact k q)
theorem j_cSv (hC : Call X true n' 0 0 M' As NC G (Rv G1)) (hown : M.1.cls = own) (hl0 : Cond.methodLink own idx M'.1 ∈ TS) (hM : SOK M' kk) (hn : n' + 1 ≤ n) (hlen : As.length = kk) (hst : st0 = As.reverse ++ st) (hstk : (st.map fun v => v.category).sum ≤ 8) (d : decode M.2.1 pc = .ok (.invokestatic idx, 3)) (k : J X true n 0 0 M Q NC 0 0 (pc + 3) L st G1) : J X true n 0 0 M Q NC 0 0 pc L st0 G :=
  j_callS hown hl0 hM hn ⟨Nat.le_refl _, Nat.le_refl _⟩ hlen hst hstk hC d (fun v a' G' q => by obtain ⟨rfl, rfl, rfl⟩ := q; exact k)
/-- a private static method of a nest mate -/
theorem j_cSNz {host : String} {r : Int} (hC : Call X true n' 0 0 M' As NC G (Rz r G1)) (hown : M.1.cls = own) (hl0 : (own, idx, M'.1, host) ∈ nestL) (hM : SOK M' kk) (hn : n' + 1 ≤ n) (hlen : As.length = kk) (hst : st0 = As.reverse ++ st) (hstk : (st.map fun v => v.category).sum ≤ 8) (d : decode M.2.1 pc = .ok (.invokestatic idx, 3)) (k : wr r = r → (r = 0 ∨ r = 1) → J X true n 0 0 M Q NC 0 0 (pc + 3) L (vi r :: st) G1) : J X true n 0 0 M Q NC 0 0 pc L st0 G := by
  intro p l e s m args below meth c C H locs ls hz hF hP hS hl T0 hT0 X0
  have hsz : H.size = X.1 + NC := heap_size hz C.2.2.2.2.2.2.2.2.2.2 hP hS hT0 X0
  obtain ⟨m1, m3, m4, m5, m6, m7⟩ := hM
  subst hown
  have hts := C.2.2.2.2.2.2.1
  have cw : va_CN (rm n 0 0) s args M.1.cls idx M'.1 host M'.2.1 M'.2.2.1 M'.2.2.2 (wsM M') (rm n' 0 0) 0 0 As.length ∧ (Cond.static M'.1).before args s = true ∧ True := by
    refine ⟨va_cnB As.length hts (good_wsM m4) rfl rfl rfl (C.2.2.2.2.2.2.2.2.1.2.2.2.2.1 _ hl0) (hts _ m3) ⟨m5.1, m5.2.1, by rw [hlen]; exact m6⟩ ⟨hn, ?_⟩, hts _ m1, trivial⟩
    show 8 + (M'.2.2.1 + 11) + 40 * (n' + 1) ≤ 40 * (n + 1); omega
  exact j_run (av := As) C hz hsz hS hl (va_runSN (As := As) (rest := st) ⟨C.1, C.2.1, C.2.2.2.2.1, C.2.2.2.2.2.1, hts⟩ (hC l) cw ⟨blind_Wd, fun U hU hW => ⟨rfl, by rw [hU]; exact hsz, hF, by rw [hU]; exact hP, va_K.moved hW.alike C.2.2.2.2.2.2.2.1, C.2.2.2.2.2.2.2.2.1.at hS hU hW⟩⟩ rfl rfl hl.1 hst (lv_room hstk) d ⟨Nat.le_refl _, Nat.le_refl _⟩)
    (fun v a' G' q => by obtain ⟨rfl, rfl, rfl, q, b⟩ := q; exact k q b) T0 hT0 X0
end JW
