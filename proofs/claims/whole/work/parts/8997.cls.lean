/-! a formula's tokens in the class -/
def FL (G G' : GS) (c : Nat) : Prop := (∀ x k, ¬ (x = 15 ∧ (k = 7 ∨ ((k = 8 ∨ k = 9) ∧ gi G' 15 8 ≠ 0))) → ¬ (x = 21 ∧ 3 ≤ k ∧ k ≤ 8) → x ≠ 22 → ¬ (x = c ∧ k = 9) → x ≠ c + 5 → gi G' x k = gi G x k) ∧ ∀ x k, gp G' x k = gp G x k
theorem FL.rfl' {G : GS} {c : Nat} : FL G G c := ⟨fun _ _ _ _ _ _ _ => rfl, fun _ _ => rfl⟩
theorem FL.trans {G G' G'' : GS} {c : Nat} (h : FL G G' c) (h' : FL G' G'' c) : FL G G'' c := ⟨fun x k a1 a2 a3 a4 a5 => by
  have e8 : 15 ≠ c + 5 → gi G'' 15 8 = 0 → gi G'' 15 8 = gi G' 15 8 := fun w y => h'.1 15 8 (by omega) (by omega) (by omega) (by omega) w
  by_cases z : x = 15
  · by_cases y : gi G'' 15 8 = 0
    · have := e8 (by omega) y
      rw [h'.1 x k a1 a2 a3 a4 a5, h.1 x k (by omega) a2 a3 a4 a5]
    · rw [h'.1 x k a1 a2 a3 a4 a5, h.1 x k (by omega) a2 a3 a4 a5]
  · rw [h'.1 x k a1 a2 a3 a4 a5, h.1 x k (by omega) a2 a3 a4 a5], fun x k => by rw [h'.2, h.2]⟩
theorem FL_21 {G : GS} {c k : Nat} {v : Int} (hk : 3 ≤ k ∧ k ≤ 8) : FL G (si G 21 k v) c := ⟨fun x j a1 a2 a3 a4 a5 => by rw [gi_si, if_neg (by omega)], fun _ _ => rfl⟩
theorem FL_stp {G : GS} {c i : Nat} : FL G (stp G i) c := ⟨fun x j a1 a2 a3 a4 a5 => stp_gi (by omega), fun _ _ => rfl⟩
theorem FL_flt {G : GS} {c q : Nat} {k : Int} (hk : wr k ≠ 0) : FL G (flt G k q) c := ⟨fun x j a1 a2 a3 a4 a5 => flt_gi (by have := flt_8n (G := G) (q := q) hk; omega), fun _ _ => rfl⟩
theorem FL_lp {G : GS} {c n : Nat} {v w : Int} : FL G (si (si G (c + 5) n v) c 9 w) c := ⟨fun x j a1 a2 a3 a4 a5 => by rw [gi_si, if_neg a4, gi_ne a5], fun _ _ => rfl⟩
theorem FL_22 {G : GS} {c n : Nat} {v : Int} : FL G (si G 22 n v) c := ⟨fun x j a1 a2 a3 a4 a5 => gi_ne a3, fun _ _ => rfl⟩
theorem FS.fl {G G' : GS} {c : Nat} (h : FS G G' c) : FL G G' c := ⟨fun x k a1 a2 a3 a4 a5 => h.1 x k (by omega) a4 a5, h.2⟩
/-- where the class stands in a formula -/
def LSf (G : GS) (c : Nat) (B : Nat → Int) (L i q : Nat) (s cd : List Int) (o nt cmp cond last : Int) : Prop := atC G B L i q ∧ gi G 15 8 = 0 ∧ SB G c s cd ∧ (gi G 21 4 = last ∧ gi G 21 5 = o ∧ gi G 21 6 = nt ∧ gi G 21 7 = cond ∧ gi G 21 8 = cmp) ∧ cd.length + s.length + 1 ≤ i
theorem SB_fr {G G' : GS} {c : Nat} {s cd : List Int} (hp : ∀ x k, gp G' x k = gp G x k) (h3 : gi G' 21 3 = gi G 21 3) (h22 : ∀ k, gi G' 22 k = gi G 22 k) (h9 : gi G' c 9 = gi G c 9) (h5 : ∀ k, gi G' (c + 5) k = gi G (c + 5) k) (h : SB G c s cd) : SB G' c s cd := by
  obtain ⟨a1, a2, a3, a4, a5, a6, a7, a8⟩ := h
  exact ⟨by rw [hp]; exact a1, by rw [h3]; exact a2, Cs_fr _ (fun i _ => h22 i) a3, a4, by rw [h9]; exact a5, Ar_fr (fun j _ => h5 j) a6, a7, a8⟩
theorem SB_flt {G : GS} {c q : Nat} {s cd : List Int} {k : Int} (hc : lawC c = true) (h : SB G c s cd) : SB (flt G k q) c s cd := by
  have hr := law_rng hc
  exact SB_fr (G := G) (fun _ _ => rfl) (flt_gi (by omega)) (fun _ => flt_gi (by omega)) (flt_gi (by omega)) (fun _ => flt_gi (by omega)) h
theorem SB_put {G : GS} {c : Nat} {s cd : List Int} {v : Int} (hc : lawC c = true) (hv : wr v = v) (h8 : cd.length + s.length + 1 ≤ 800) (h : SB G c s cd) : SB (si (si G (c + 5) cd.length v) c 9 ((cd.length : Int) + 1)) c s (cd ++ [v]) := by
  have hr := law_rng hc
  obtain ⟨a1, a2, a3, a4, a5, a6, a7, a8⟩ := h
  refine ⟨a1, by rw [gi_ne (by omega), gi_ne (by omega)]; exact a2, Cs_fr _ (fun i _ => by rw [gi_ne (by omega), gi_ne (by omega)]) a3, a4, ?_, Ar_fr (fun j _ => by rw [gi_ne (by omega)]) (Ar_push rfl hv a6), by rw [List.length_append]; simp only [List.length_singleton]; omega, a8⟩
  rw [gi_sm, if_pos rfl, List.length_append, wr_of (by omega) (by omega)]
  simp
def FBf (G G' : GS) (c : Nat) (k : Int) (x : Nat) : Prop := FL G G' c ∧ gi G' 15 8 = k ∧ gi G' 15 9 = x ∧ 0 ≤ gi G' c 9
theorem fin_C {G : GS} {c x : Nat} {s cd : List Int} {k : Int} (hc : lawC c = true) (h : SB G c s cd) (h8 : gi G 15 8 = k) (h9 : gi G 15 9 = x) (hk : k ≠ 0) : ∃ G', f_LawReader_formula_L138 G = some G' ∧ f_LawReader_formula_L109 G = some G' ∧ FBf G G' c k x := by
  have hr := law_rng hc
  obtain ⟨t, u, e1, e2, e3⟩ := split_S 1 s
  rw [e1] at h
  obtain ⟨G', r1, r2, r3⟩ := settle_C hc h e2 e3
  have e138 : f_LawReader_formula_L138 G = some G' := by
    rw [f_LawReader_formula_L138, rank_eq, Option.bind_some, show rk 127 = 1 from rfl, r1]; rfl
  have e130 : f_LawReader_formula_L130 G = some G' := by
    rw [f_LawReader_formula_L130, fail_no (by rw [h8]; exact hk), Option.bind_some, e138]
  refine ⟨G', e138, ?_, r2.fl, by rw [r2.1 15 8 (by omega) (by omega) (by omega)]; exact h8, by rw [r2.1 15 9 (by omega) (by omega) (by omega)]; exact h9, by rw [r3.2.2.2.2.1]; omega⟩
  rw [f_LawReader_formula_L109]
  repeat' split
  all_goals first | exact e130 | exact e138
theorem FBf.of {G G0 G' : GS} {c x : Nat} {k : Int} (h : FL G G0 c) (h' : FBf G0 G' c k x) : FBf G G' c k x := ⟨h.trans h'.1, h'.2⟩
theorem loop_flt {G : GS} {c x : Nat} {s cd : List Int} {k : Int} (hc : lawC c = true) (h : SB G c s cd) (h8 : gi G 15 8 = k) (h9 : gi G 15 9 = x) (hk : k ≠ 0) (m : Nat) (x2 x3 x4 : Int) : ∃ G', f_LawReader_formula_L37 (m + 1) G x2 x3 x4 = some G' ∧ FBf G G' c k x := by
  obtain ⟨G', r1, r2, r3⟩ := fin_C hc h h8 h9 hk
  refine ⟨G', ?_, r3⟩
  rw [f_LawReader_formula_L37]
  by_cases z1 : 800 < x4
  · rw [if_pos z1]; exact r2
  · rw [if_neg z1]
    by_cases z2 : x3 = 0
    · rw [if_pos z2]; exact r2
    · rw [if_neg z2, if_neg (show ¬ gi G 15 8 = 0 by rw [h8]; exact hk)]; exact r2
def Rch (G : GS) (i : Nat) (a : Int) (G' : GS) (i' : Nat) (a' : Int) : Prop := ∀ N x : Nat, 802 ≤ N → x ≤ i → f_LawReader_formula_L37 (N - i) G a 1 ((i : Int) - x) = f_LawReader_formula_L37 (N - i') G' a' 1 ((i' : Int) - x)
def Bdf (G : GS) (c i : Nat) (a : Int) (k : Int) (y : Nat) : Prop := ∀ N x : Nat, 802 ≤ N → x ≤ i → ∃ G', f_LawReader_formula_L37 (N - i) G a 1 ((i : Int) - x) = some G' ∧ FBf G G' c k y
theorem Rch.trans {G G' G'' : GS} {i i' i'' : Nat} {a a' a'' : Int} (h : Rch G i a G' i' a') (hi : i ≤ i') (h' : Rch G' i' a' G'' i'' a'') : Rch G i a G'' i'' a'' := fun N x hN hx => by rw [h N x hN hx, h' N x hN (by omega)]
theorem Bdf.of {G G' : GS} {c i i' y : Nat} {a a' k : Int} (h : Rch G i a G' i' a') (hi : i ≤ i') (hF : FL G G' c) (h' : Bdf G' c i' a' k y) : Bdf G c i a k y := fun N x hN hx => by
  obtain ⟨G1, r1, r2⟩ := h' N x hN (by omega)
  exact ⟨G1, by rw [h N x hN hx, r1], r2.of hF⟩
/-- the loop, one token on -/
theorem lp_1 {G : GS} {B : Nat → Int} {L i q : Nat} (h : atC G B L i q) (h8 : gi G 15 8 = 0) (N x : Nat) (hN : 802 ≤ N) (hx : x ≤ i) : f_LawReader_formula_L37 (N - i) G 1 1 ((i : Int) - x) = (f_LawReader_operand G (kC B L q)).bind fun r => f_LawReader_formula_L37 (N - (i + 1)) r.2 r.1 1 (((i + 1 : Nat) : Int) - x) := by
  have hi := (atC_hd h).1
  have hw : wr (((i : Int) - x) + 1) = ((i + 1 : Nat) : Int) - x := by rw [wr_of (by omega) (by omega)]; omega
  rw [show N - i = (N - (i + 1)) + 1 by omega, f_LawReader_formula_L37, if_neg (by omega), if_neg (by decide), if_pos h8, kind_at h, Option.bind_some, if_neg (by decide)]
  simp only [f_LawReader_formula_L103, hw]
theorem lp_0 {G : GS} {B : Nat → Int} {L i q : Nat} (h : atC G B L i q) (h8 : gi G 15 8 = 0) (N x : Nat) (hN : 802 ≤ N) (hx : x ≤ i) : f_LawReader_formula_L37 (N - i) G 0 1 ((i : Int) - x) = (f_LawReader_mayFollow G (kC B L q)).bind fun z => if z = 0 then f_LawReader_formula_L37 (N - (i + 1)) G 0 0 (((i + 1 : Nat) : Int) - x) else (f_LawReader_operator G (kC B L q)).bind fun r => f_LawReader_formula_L37 (N - (i + 1)) r.2 r.1 1 (((i + 1 : Nat) : Int) - x) := by
  have hi := (atC_hd h).1
  have hw : wr (((i : Int) - x) + 1) = ((i + 1 : Nat) : Int) - x := by rw [wr_of (by omega) (by omega)]; omega
  rw [show N - i = (N - (i + 1)) + 1 by omega, f_LawReader_formula_L37, if_neg (by omega), if_neg (by decide), if_pos h8, kind_at h, Option.bind_some, if_pos rfl]
  simp only [f_LawReader_formula_L103, hw]
/-- behind a token: last is set, one on -/
theorem behind_C {G : GS} {c : Nat} {B : Nat → Int} {L i q : Nat} {s cd : List Int} {a o nt cmp cond : Int} (hc : lawC c = true) (ha : wr a = a) (hq : q < L) (hA : atC G B L i q) (h8 : gi G 15 8 = 0) (hS : SB G c s cd) (h5 : gi G 21 5 = o) (h6 : gi G 21 6 = nt) (h7 : gi G 21 7 = cond) (h8' : gi G 21 8 = cmp) (hi : cd.length + s.length ≤ i) : ∃ G', f_LawReader_goBehind G a = some G' ∧ FL G G' c ∧ LSf G' c B L (i + 1) (nq B L q) s cd o nt cmp cond a := by
  have hr := law_rng hc
  have h1 : atC (si G 21 4 a) B L i q := atC_fr (gi_ne (by decide)) (gi_ne (by decide)) (fun x k z1 z2 => gi_ne (by omega)) hA
  refine ⟨stp (si G 21 4 a) i, ?_, (FL_21 (by decide)).trans FL_stp, stp_at h1 hq, ?_, ?_, ⟨?_, ?_, ?_, ?_, ?_⟩, by omega⟩
  · rw [f_LawReader_goBehind, if_pos h8]
    simp only [wG, (step_at h1 hq).1, Option.bind_some]
    rfl
  · rw [stp_gi (by omega), gi_ne (by decide)]; exact h8
  · refine SB_fr (G := G) (fun _ _ => rfl) ?_ (fun _ => ?_) ?_ (fun _ => ?_) hS
    · rw [stp_gi (by omega), gi_si, if_neg (by omega)]
    · rw [stp_gi (by omega), gi_ne (by decide)]
    · rw [stp_gi (by omega), gi_ne (by omega)]
    · rw [stp_gi (by omega), gi_ne (by omega)]
  · rw [stp_gi (by omega), gi_si, if_pos ⟨rfl, rfl⟩]; exact ha
  · rw [stp_gi (by omega), gi_si, if_neg (by omega)]; exact h5
  · rw [stp_gi (by omega), gi_si, if_neg (by omega)]; exact h6
  · rw [stp_gi (by omega), gi_si, if_neg (by omega)]; exact h7
  · rw [stp_gi (by omega), gi_si, if_neg (by omega)]; exact h8'
