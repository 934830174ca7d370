/-! class and reference side by side in a formula -/
theorem Rch_opr {G G' : GS} {B : Nat → Int} {L i q : Nat} {a : Int} (h : atC G B L i q) (h8 : gi G 15 8 = 0) (e : f_LawReader_operand G (kC B L q) = some (a, G')) : Rch G i 1 G' (i + 1) a := fun N x hN hx => by
  rw [lp_1 h h8 N x hN hx, e]; rfl
theorem Rch_opt {G G' : GS} {B : Nat → Int} {L i q : Nat} {a : Int} (h : atC G B L i q) (h8 : gi G 15 8 = 0) (m : f_LawReader_mayFollow G (kC B L q) = some 1) (e : f_LawReader_operator G (kC B L q) = some (a, G')) : Rch G i 0 G' (i + 1) a := fun N x hN hx => by
  rw [lp_0 h h8 N x hN hx, m, Option.bind_some, if_neg (by decide), e]; rfl
theorem Bd_opr {G G' : GS} {c : Nat} {B : Nat → Int} {L i q x : Nat} {a k : Int} {s cd : List Int} (hc : lawC c = true) (h : atC G B L i q) (h8 : gi G 15 8 = 0) (e : f_LawReader_operand G (kC B L q) = some (a, G')) (hF : FL G G' c) (hS : SB G' c s cd) (hk : gi G' 15 8 = k) (hx : gi G' 15 9 = x) (hk0 : k ≠ 0) : Bdf G c i 1 k x := fun N y hN hy => by
  have hi := (atC_hd h).1
  obtain ⟨G2, r1, r2⟩ := loop_flt hc hS hk hx hk0 (N - (i + 2)) a 1 (((i + 1 : Nat) : Int) - y)
  rw [lp_1 h h8 N y hN hy, e, Option.bind_some, show N - (i + 1) = N - (i + 2) + 1 by omega]
  exact ⟨G2, r1, r2.of hF⟩
theorem Bd_stop {G : GS} {c : Nat} {B : Nat → Int} {L i q : Nat} {s cd : List Int} {o nt cmp cond last : Int} (hc : lawC c = true) (hq : q ≤ 800) (h : LSf G c B L i q s cd o nt cmp cond last) (m : f_LawReader_mayFollow G (kC B L q) = some 0) (ho : 0 < o ∨ (cond ≠ 0 ∧ cmp = 0)) : Bdf G c i 0 1 q := fun N y hN hy => by
  obtain ⟨hA, h8, hS, ⟨h4, h5, h6, h7, h8'⟩, hi⟩ := h
  have hi8 := (atC_hd hA).1
  obtain ⟨G2, r1, r2, r3⟩ := fin_C (k := 1) (x := q) hc (SB_flt (q := q) (k := 1) hc hS) (flt_8 rfl) (flt_9 hq) (by decide)
  have e130 : f_LawReader_formula_L130 G = some G2 := by rw [f_LawReader_formula_L130, fail_at hA h8, Option.bind_some, r1]
  have e109 : f_LawReader_formula_L109 G = some G2 := by
    rw [f_LawReader_formula_L109, h5, h7, h8']
    by_cases z : 0 < o
    · rw [if_pos z, e130]
    · rw [if_neg z, if_neg (show ¬ cond = 0 by omega), if_pos (show cmp = 0 by omega), e130]
  rw [lp_0 hA h8 N y hN hy, m, Option.bind_some, if_pos rfl, show N - (i + 1) = N - (i + 2) + 1 by omega, f_LawReader_formula_L37]
  refine ⟨G2, ?_, r3.of (FL_flt (by decide))⟩
  split
  · exact e109
  · rw [if_pos rfl]; exact e109
def Mid (c : Nat) (B : Nat → Int) (L : Nat) (G0 H0 : GS) (i0 : Nat) (s cd : List Int) (st : Fm) (d rt : Int) (ty : Bool) (tb : Nat) (cond o nt cmp : Int) (G H : GS) (i q : Nat) : Prop := ∃ (t cd' : List Int) (f : Fm) (last : Int), i0 ≤ i ∧ Rch G0 i0 1 G i 0 ∧ FL G0 G c ∧ LSf G c B L i q (t ++ s) cd' o nt cmp cond last ∧ FH H0 H ∧ MS H B L q d (st ++ f) ∧ (∀ a ∈ t, rt ≤ rk a) ∧ cd' ++ flush t = cd ++ clsF f ∧ okV f ∧ (∀ S : List Bool, S.length ≤ tb → typF f S = some (ty :: S)) ∧ f.length + i0 ≤ i
def BadH (H H' : GS) (k : Int) (x : Nat) : Prop := FH H H' ∧ gi H' 81 48 = k ∧ gi H' 81 49 = x
theorem BadH.of {H H0 H' : GS} {k : Int} {x : Nat} (h : FH H H0) (h' : BadH H0 H' k x) : BadH H H' k x := ⟨h.trans h'.1, h'.2⟩
theorem BadH_bad {H : GS} {k : Int} {q : Nat} (hk : wr k = k) (hq : q ≤ 800) : BadH H (bad H k q) k q := ⟨FH_bad, bad_48 hk, bad_49 hq⟩
theorem Mid.weak {c : Nat} {B : Nat → Int} {L : Nat} {G0 H0 : GS} {i0 : Nat} {s cd : List Int} {st : Fm} {d rt rt' : Int} {ty : Bool} {tb tb' : Nat} {cond o nt cmp : Int} {G H : GS} {i q : Nat} (hr : rt' ≤ rt) (ht : tb' ≤ tb) (h : Mid c B L G0 H0 i0 s cd st d rt ty tb cond o nt cmp G H i q) : Mid c B L G0 H0 i0 s cd st d rt' ty tb' cond o nt cmp G H i q := by
  obtain ⟨t, cd', f, last, a1, a2, a3, a4, a5, a6, a7, a8, a9, a10, a11⟩ := h
  exact ⟨t, cd', f, last, a1, a2, a3, a4, a5, a6, fun a ha => by have := a7 a ha; omega, a8, a9, fun S hS => a10 S (by omega), a11⟩
theorem lowS_mono {r r' : Int} (h : r ≤ r') : ∀ s : List Int, lowS r s → lowS r' s
  | [], _ => trivial
  | a :: s, h' => by
    have h1 : rk a < r := h'
    show rk a < r'
    omega
theorem rk_6 (a : Int) : rk a ≤ 6 := by
  unfold rk
  repeat' split
  all_goals decide
theorem lowS_7 (s : List Int) : lowS 7 s := by
  cases s with
  | nil => trivial
  | cons a s => have := rk_6 a; show rk a < 7; omega
/-- an operator behind a middle, and what comes behind it -/
theorem mid_op {c : Nat} {B : Nat → Int} {L : Nat} {G0 H0 : GS} {i0 : Nat} {s cd : List Int} {st : Fm} {d rt : Int} {ty : Bool} {tb : Nat} {cond o nt cmp : Int} {G H : GS} {i q : Nat} (hc : lawC c = true) (hM : Mid c B L G0 H0 i0 s cd st d rt ty tb cond o nt cmp G H i q) (op : Int) (hK : kC B L q = op) (hr : rk op ≤ rt) (hs : lowS (rk op) s) (hl : s.length + 1 ≤ 60) (hst : st.length ≤ i0) (ho : op = 42 ∨ op = 43 ∨ op = 45 ∨ op = 47 ∨ ((op = 60 ∨ op = 61 ∨ op = 62) ∧ cond ≠ 0 ∧ o = 0 ∧ cmp = 0) ∨ ((op = 127 ∨ op = 128) ∧ cond ≠ 0 ∧ o = 0 ∧ cmp ≠ 0)) : ∃ (G1 H1 : GS) (f : Fm), f_Model_next0 H = some H1 ∧ i0 ≤ i ∧ Rch G0 i0 1 G1 (i + 1) 1 ∧ FL G0 G1 c ∧ FH H0 H1 ∧ LSf G1 c B L (i + 1) (nq B L q) (op :: s) (cd ++ clsF f) o (if op = 127 ∨ op = 128 then 0 else nt) (if op = 127 ∨ op = 128 then 0 else if op = 60 ∨ op = 61 ∨ op = 62 then 1 else cmp) cond op ∧ MS H1 B L (nq B L q) d (st ++ f) ∧ okV f ∧ (∀ S : List Bool, S.length ≤ tb → typF f S = some (ty :: S)) ∧ f.length + i0 ≤ i ∧ q < L ∧ i ≤ 800 := by
  obtain ⟨t, cd', f, last, a1, a2, a3, a4, a5, a6, a7, a8, a9, a10, a11⟩ := hM
  have hA := a4.1
  have h8 := a4.2.1
  have hi8 := (atC_hd hA).1
  have hq : q < L := kC_lt (B := B) (by omega)
  have hm : f_LawReader_mayFollow G (kC B L q) = some 1 := by
    rw [mayF a4.2.2.2.1.2.1 a4.2.2.2.1.2.2.2.1 a4.2.2.2.1.2.2.2.2, if_pos (by omega)]
  obtain ⟨G1, b1, b2, b3⟩ := op_C hc a4 (fun a ha => by have := a7 a ha; rw [hK]; omega) (by rw [hK]; exact hs) hl (by omega)
  obtain ⟨H1, d1, d2, d3⟩ := next_at a6.1 hq
  rw [hK, a8] at b3
  exact ⟨G1, H1, f, d1, a1, a2.trans a1 (Rch_opt hA h8 hm b1), a3.trans b2, a5.trans (FH_Mx d2), b3, MS_Mx d3 d2 a6, a9, a10, a11, hq, by omega⟩
/-- what came behind is laid with its operator -/
theorem mid_lay {c : Nat} {B : Nat → Int} {L : Nat} {G0 H0 G1 H1 : GS} {i0 i1 : Nat} {s cd : List Int} {st f : Fm} {d rt rt2 : Int} {ty ty2 ty3 : Bool} {tb tb2 : Nat} {cond o nt2 cmp2 : Int} {G2 H2 : GS} {i2 q2 : Nat} (op code : Int) (hi0 : i0 + 1 ≤ i1) (hR : Rch G0 i0 1 G1 i1 1) (hF : FL G0 G1 c) (hH : FH H0 H1) (hok : okV f) (hty : ∀ S : List Bool, S.length ≤ tb → typF f S = some (ty :: S)) (hfl : f.length + i0 + 1 ≤ i1) (hst : st.length ≤ i0) (hM : Mid c B L G1 H1 i1 (op :: s) (cd ++ clsF f) (st ++ f) d rt2 ty2 tb2 cond o nt2 cmp2 G2 H2 i2 q2) (hr : rt ≤ rk op) (hr2 : rt ≤ rt2) (htb : tb + 1 ≤ tb2) (hw : 8 ≤ code ∧ code ≤ 17) (hcl : clsI (code, 0) = [-op]) (hI : ∀ S : List Bool, S.length ≤ tb → typI (code, 0) (ty2 :: ty :: S) = some (ty3 :: S)) : ∃ H3, f_Model_lay H2 code 0 = some H3 ∧ Mid c B L G0 H0 i0 s cd st d rt ty3 tb cond o nt2 cmp2 G2 H3 i2 q2 := by
  obtain ⟨t, cd', g, last, a1, a2, a3, a4, a5, a6, a7, a8, a9, a10, a11⟩ := hM
  have hi8 := (atC_hd a4.1).1
  obtain ⟨H3, e1, e2, e3, -⟩ := lay_M (a := code) (b := 0) (wr_of (by omega) (by omega)) wr_zero (by simp only [List.length_append]; omega) a6
  refine ⟨H3, e1, t ++ [op], cd', f ++ (g ++ [(code, 0)]), last, by omega, hR.trans (by omega) a2, hF.trans a3, ?_, hH.trans (a5.trans e2), ?_, ?_, ?_, ?_, ?_, ?_⟩
  · rw [List.append_assoc]; exact a4
  · rw [show st ++ (f ++ (g ++ [(code, 0)])) = st ++ f ++ g ++ [(code, 0)] by simp only [List.append_assoc]]
    exact e3
  · intro a ha
    rcases List.mem_append.mp ha with z | z
    · have := a7 a z; omega
    · rw [List.mem_singleton.mp z]; exact hr
  · rw [flush_app, ← List.append_assoc, a8, clsF_app, clsF_app]
    have : clsF [(code, 0)] = flush [op] := by
      show clsI (code, 0) ++ [] = _
      rw [hcl]; rfl
    rw [this]
    simp only [List.append_assoc]
  · exact okV_app hok (okV_app a9 (fun q hq => by rw [List.mem_singleton.mp hq]; intro z; exact absurd (show code = 0 from z) (by omega)))
  · intro S hS
    rw [typF_app, hty S hS, Option.bind_some, typF_app, a10 (ty :: S) (by rw [List.length_cons]; omega), Option.bind_some, typF_c, hI S hS]
    rfl
  · simp only [List.length_append, List.length_singleton]; omega
