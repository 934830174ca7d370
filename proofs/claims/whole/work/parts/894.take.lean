/-! what the class's reader does at a token -/
def stp (G : GS) (i : Nat) : GS := si G 15 7 ((i : Int) + 1)
def flt (G : GS) (k : Int) (q : Nat) : GS := si (si G 15 8 k) 15 9 (q : Int)
theorem fail_at {G : GS} {B : Nat → Int} {L i q : Nat} {k : Int} (h : atC G B L i q) (h8 : gi G 15 8 = 0) : f_Text_fail G k = some (flt G k q) := by
  obtain ⟨h1, h2, h3, h4, h5⟩ := atC_hd h
  have h7 := h.2.1
  have e7 : gi (si G 15 8 k) 15 7 = i := by rw [gi_si, if_neg (by omega)]; exact h7
  have e20 : gi (si G 15 8 k) 20 i = q := by rw [gi_ne (by decide)]; exact h5
  rw [f_Text_fail, if_pos h8, h7, if_neg (by omega)]
  simp only [wG, e7, gd, if_pos (show (0 : Int) ≤ (i : Int) ∧ (i : Int) < 801 by omega), Int.toNat_natCast, e20]
  rfl
theorem fail_no {G : GS} {k : Int} (h8 : gi G 15 8 ≠ 0) : f_Text_fail G k = some G := by rw [f_Text_fail, if_neg h8]
theorem kC_lt {B : Nat → Int} {L q : Nat} (h : kC B L q ≠ 0) : q < L := by
  unfold kC at h
  by_cases c : q < L
  · exact c
  · rw [if_neg c] at h; exact absurd rfl h
theorem takeIf_at {G : GS} {B : Nat → Int} {L i q : Nat} {a : Int} (h : atC G B L i q) (h8 : gi G 15 8 = 0) (ha : a ≠ 0) : f_Text_takeIf G a = some (if kC B L q = a then (1, stp G i) else (0, G)) := by
  rw [f_Text_takeIf, if_pos h8, kind_at h, Option.bind_some]
  by_cases c : kC B L q = a
  · rw [if_pos c, if_pos c, (step_at h (kC_lt (by rw [c]; exact ha))).1]; rfl
  · rw [if_neg c, if_neg c]
theorem takeIf_no {G : GS} {a : Int} (h8 : gi G 15 8 ≠ 0) : f_Text_takeIf G a = some (0, G) := by rw [f_Text_takeIf, if_neg h8]
theorem take_at {G : GS} {B : Nat → Int} {L i q : Nat} {a : Int} (h : atC G B L i q) (h8 : gi G 15 8 = 0) (ha : a ≠ 0) : f_Text_take G a = some (if kC B L q = a then stp G i else flt G 1 q) := by
  rw [f_Text_take, if_pos h8, takeIf_at h h8 ha, Option.bind_some]
  by_cases c : kC B L q = a
  · rw [if_pos c, if_pos c]
    exact if_neg (show ¬ (1 : Int) = 0 by decide)
  · rw [if_neg c, if_neg c, if_pos rfl, fail_at h h8]; rfl
theorem take_no {G : GS} {a : Int} (h8 : gi G 15 8 ≠ 0) : f_Text_take G a = some G := by rw [f_Text_take, if_neg h8]
/-- the class behind a token, behind a fault -/
theorem stp_at {G : GS} {B : Nat → Int} {L i q : Nat} (h : atC G B L i q) (hq : q < L) : atC (stp G i) B L (i + 1) (nq B L q) := (step_at h hq).2
theorem stp_gi {G : GS} {i c k : Nat} (z : ¬ (c = 15 ∧ k = 7)) : gi (stp G i) c k = gi G c k := by unfold stp; rw [gi_si, if_neg z]
theorem flt_gi {G : GS} {q c k : Nat} {v : Int} (z : ¬ (c = 15 ∧ (k = 8 ∨ k = 9))) : gi (flt G v q) c k = gi G c k := by unfold flt; rw [gi_si, if_neg (by omega), gi_si, if_neg (by omega)]
theorem flt_8 {G : GS} {q : Nat} {v : Int} (hv : wr v = v) : gi (flt G v q) 15 8 = v := by unfold flt; rw [gi_si, if_neg (by omega), gi_si, if_pos ⟨rfl, rfl⟩]; exact hv
theorem flt_9 {G : GS} {q : Nat} {v : Int} (hq : q ≤ 800) : gi (flt G v q) 15 9 = q := by unfold flt; rw [gi_si, if_pos ⟨rfl, rfl⟩]; exact wr_of (by omega) (by omega)
theorem flt_at {G : GS} {B : Nat → Int} {L i q x : Nat} {v : Int} (h : atC G B L i q) : atC (flt G v x) B L i q := atC_fr (flt_gi (by omega)) (flt_gi (by omega)) (fun c k a b => flt_gi (by omega)) h
theorem kC_in {B : Nat → Int} (hB : ∀ k, -128 ≤ B k ∧ B k ≤ 127) (L q : Nat) : 0 ≤ kC B L q ∧ kC B L q ≤ 135 := by
  unfold kC tK
  by_cases c : q < L
  · rw [if_pos c]
    split
    · have := wkF_b B q (tE B L q) 36 0 rfl; omega
    · split
      · split <;> omega
      · split
        · rename_i h
          have := of_decide_eq_true h
          omega
        · omega
  · rw [if_neg c]; omega
/-- one of n words from a on -/
theorem oneOf_at {G : GS} {B : Nat → Int} {L i q : Nat} {a n : Int} (hB : ∀ k, -128 ≤ B k ∧ B k ≤ 127) (h : atC G B L i q) (h8 : gi G 15 8 = 0) (ha : 1 ≤ a ∧ a ≤ 200) (hn : 0 ≤ n ∧ n ≤ 20) : f_Text_takeOneOf G a n = some (if a ≤ kC B L q ∧ kC B L q < a + n then (kC B L q - a, stp G i) else (0, flt G 1 q)) := by
  have kb := kC_in hB L q
  rw [f_Text_takeOneOf, kind_at h, Option.bind_some, wr_of (x := kC B L q - a) (by omega) (by omega)]
  by_cases c1 : kC B L q - a < 0
  · rw [if_pos c1, if_neg (by omega), f_Text_takeOneOf_L16, fail_at h h8]; rfl
  · rw [if_neg c1]
    by_cases c2 : kC B L q - a < n
    · rw [if_pos c2, if_pos (by omega), wr_of (by omega) (by omega), show a + (kC B L q - a) = kC B L q by omega, take_at h h8 (by omega), if_pos rfl]; rfl
    · rw [if_neg c2, if_neg (by omega), f_Text_takeOneOf_L16, fail_at h h8]; rfl
/-- a number up to m -/
theorem num_at {G : GS} {B : Nat → Int} {L i q : Nat} {m : Int} (h : atC G B L i q) (h8 : gi G 15 8 = 0) : f_Text_takeNumber G m = some (vC B L q, if kC B L q = 2 then (if vC B L q ≤ m then stp G i else flt G 2 q) else flt G 1 q) := by
  rw [f_Text_takeNumber, value_at h, Option.bind_some, if_pos h8, kind_at h, Option.bind_some]
  by_cases c : kC B L q = 2
  · rw [if_pos c, if_pos c]
    by_cases d : vC B L q ≤ m
    · rw [if_pos d, if_pos d, f_Text_takeNumber_L30, take_at h h8 (by decide), if_pos c]; rfl
    · have e8 : gi (flt G 2 q) 15 8 ≠ 0 := by rw [flt_8 (by decide)]; decide
      rw [if_neg d, if_neg d, fail_at h h8, Option.bind_some, f_Text_takeNumber_L30, take_no e8]; rfl
  · rw [if_neg c, if_neg c, f_Text_takeNumber_L30, take_at h h8 (by decide), if_neg c]; rfl
