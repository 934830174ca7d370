theorem opr_S {G : GS} {c : Nat} {B : Nat → Int} {L i q : Nat} {s cd : List Int} {o nt cmp cond last : Int} (hc : lawC c = true) (h : LSf G c B L i q s cd o nt cmp cond last) (hK : (kC B L q = 2 ∧ (last = 47 → vC B L q ≠ 0)) ∨ ((100 ≤ kC B L q ∧ kC B L q ≤ 106) ∧ last ≠ 47)) : ∃ G', f_LawReader_operand G (kC B L q) = some (0, G') ∧ FL G G' c ∧ LSf G' c B L (i + 1) (nq B L q) s (cd ++ [if kC B L q = 2 then vC B L q else -(kC B L q)]) o nt cmp cond (kC B L q) := by
  obtain ⟨hA, h8, hS, ⟨h4, h5, h6, h7, h8'⟩, hi⟩ := h
  have hr := law_rng hc
  have vb := vC_b B L q
  have hi8 := (atC_hd hA).1
  have hq : q < L := kC_lt (B := B) (by omega)
  have e74 : ∀ v : Int, wr v = v → ∃ G', f_LawReader_operand_L74 G (kC B L q) v c = some (0, G') ∧ FL G G' c ∧ LSf G' c B L (i + 1) (nq B L q) s (cd ++ [v]) o nt cmp cond (kC B L q) := by
    intro v hv
    have h1 : atC (si (si G (c + 5) cd.length v) c 9 ((cd.length : Int) + 1)) B L i q := atC_fr (by rw [gi_ne (by omega), gi_ne (by omega)]) (by rw [gi_ne (by omega), gi_ne (by omega)]) (fun x k z1 z2 => by rw [gi_ne (by omega), gi_ne (by omega)]) hA
    have hg : ∀ x k, (x = 15 ∨ x = 21) → gi (si (si G (c + 5) cd.length v) c 9 ((cd.length : Int) + 1)) x k = gi G x k := fun x k hx => by rw [gi_ne (by omega), gi_ne (by omega)]
    obtain ⟨G', r1, r2, r3⟩ := behind_C (a := kC B L q) (o := o) (nt := nt) (cmp := cmp) (cond := cond) hc (wr_of (by omega) (by omega)) hq h1 (by rw [hg 15 8 (by omega)]; exact h8) (SB_put hc hv (by omega) hS) (by rw [hg 21 5 (by omega)]; exact h5) (by rw [hg 21 6 (by omega)]; exact h6) (by rw [hg 21 7 (by omega)]; exact h7) (by rw [hg 21 8 (by omega)]; exact h8') (by rw [List.length_append]; simp only [List.length_singleton]; omega)
    refine ⟨G', ?_, FL_lp.trans r2, r3⟩
    rw [f_LawReader_operand_L74, put_L hS.2.2.2.2.1 (by have := hS.2.2.2.2.2.2.1; omega), Option.bind_some, r1]; rfl
  have e53 : ∃ G', f_LawReader_operand_L53 G (kC B L q) = some (0, G') ∧ FL G G' c ∧ LSf G' c B L (i + 1) (nq B L q) s (cd ++ [if kC B L q = 2 then vC B L q else -(kC B L q)]) o nt cmp cond (kC B L q) := by
    rw [f_LawReader_operand_L53, gd, if_pos (by rw [hS.1]; exact hc), hS.1]
    by_cases z : kC B L q = 2
    · simp only [if_pos z]
      rw [value_at hA, Option.bind_some]
      exact e74 _ (wr_of (by omega) (by omega))
    · simp only [if_neg z]
      rw [wr_of (x := -(kC B L q)) (by omega) (by omega)]
      exact e74 _ (wr_of (by omega) (by omega))
  obtain ⟨G', r1, r2, r3⟩ := e53
  refine ⟨G', ?_, r2, r3⟩
  rw [f_LawReader_operand, h4]
  by_cases z : last = 47
  · rcases hK with ⟨y1, y2⟩ | ⟨y1, y2⟩
    · rw [if_pos z, f_LawReader_operand_L14, if_pos y1, f_LawReader_operand_L31, if_neg (by decide), value_at hA, Option.bind_some, if_neg (y2 z), r1]
    · exact absurd z y2
  · rw [if_neg z, f_LawReader_operand_L14]
    by_cases y : kC B L q = 2
    · rw [if_pos y, f_LawReader_operand_L31, if_pos rfl, r1]
    · have e1 : f_LawReader_isAsked G (kC B L q) = some 1 := by rw [f_LawReader_isAsked, if_neg (by omega), if_neg (by omega)]
      rw [if_neg y, e1, Option.bind_some, if_neg (by decide), if_pos rfl, f_LawReader_operand_L31, if_pos rfl, r1]
theorem hold_C {G : GS} {c : Nat} {s cd : List Int} {a : Int} (hc : lawC c = true) (ha : 40 ≤ a ∧ a ≤ 129) (hs : s.length + 1 ≤ 60) (h8 : cd.length + s.length + 1 ≤ 800) (h : SB G c s cd) : f_LawReader_hold G a = some (si (si G 22 s.length a) 21 3 ((s.length : Int) + 1)) ∧ SB (si (si G 22 s.length a) 21 3 ((s.length : Int) + 1)) c (a :: s) cd := by
  have hr := law_rng hc
  obtain ⟨a1, a2, a3, a4, a5, a6, a7, a8⟩ := h
  have e3 : gi (si G 22 s.length a) 21 3 = s.length := by rw [gi_ne (by decide)]; exact a2
  refine ⟨?_, a1, ?_, ⟨?_, ?_⟩, ?_, ?_, ?_, by rw [List.length_cons]; omega, by rw [List.length_cons]; omega⟩
  · rw [f_LawReader_hold, a2, if_neg (by omega), gd, if_pos (by omega)]
    simp only [wG, Int.toNat_natCast, e3]
  · rw [gi_si, if_pos ⟨rfl, rfl⟩, List.length_cons, wr_of (by omega) (by omega)]; omega
  · rw [gi_ne (by decide), gi_sm, if_pos rfl]; exact wr_of (by omega) (by omega)
  · exact Cs_fr _ (fun i hi => by rw [gi_ne (by decide), gi_sm, if_neg (by omega)]) a3
  · intro b hb
    rcases List.mem_cons.mp hb with z | z
    · rw [z]; exact ha
    · exact a4 b z
  · rw [gi_ne (by omega), gi_ne (by omega)]; exact a5
  · exact Ar_fr (fun j _ => by rw [gi_ne (by omega), gi_ne (by omega)]) a6
theorem may_N {G : GS} {cond last : Int} (h4 : gi G 21 4 = last) (h7 : gi G 21 7 = cond) : f_LawReader_mayNegate G = some (if cond ≠ 0 ∧ (last = 0 ∨ last = 129 ∨ last = 128 ∨ last = 127) then 1 else 0) := by
  rw [f_LawReader_mayNegate, h4, h7]
  repeat' split
  all_goals first | rfl | (exfalso; omega)
theorem opr_H {G : GS} {c : Nat} {B : Nat → Int} {L i q : Nat} {s cd : List Int} {o nt cmp cond last : Int} (hc : lawC c = true) (h : LSf G c B L i q s cd o nt cmp cond last) (hs : s.length + 1 ≤ 60) (ho : 0 ≤ o ∧ 0 ≤ nt ∧ o + nt < 8) (hK : (kC B L q = 40 ∧ last ≠ 47) ∨ (kC B L q = 129 ∧ cond ≠ 0 ∧ (last = 0 ∨ last = 129 ∨ last = 128 ∨ last = 127))) : ∃ G', f_LawReader_operand G (kC B L q) = some (1, G') ∧ FL G G' c ∧ LSf G' c B L (i + 1) (nq B L q) (kC B L q :: s) cd (o + if kC B L q = 40 then 1 else 0) (nt + if kC B L q = 129 then 1 else 0) cmp cond (kC B L q) := by
  obtain ⟨hA, h8, hS, ⟨h4, h5, h6, h7, h8'⟩, hi⟩ := h
  have hr := law_rng hc
  have hi8 := (atC_hd hA).1
  have hq : q < L := kC_lt (B := B) (by omega)
  have e181 : ∀ u w : Int, (u = 0 ∨ u = 1) → (w = 0 ∨ w = 1) → ∃ G', f_LawReader_operand_L181 (si G 21 5 (o + u)) (kC B L q) w nt = some (1, G') ∧ FL G G' c ∧ LSf G' c B L (i + 1) (nq B L q) (kC B L q :: s) cd (o + u) (nt + w) cmp cond (kC B L q) := by
    intro u w hu hw
    have hS1 : SB (si (si G 21 5 (o + u)) 21 6 (nt + w)) c s cd := SB_fr (G := G) (fun _ _ => rfl) (by rw [gi_si, if_neg (by omega), gi_si, if_neg (by omega)]) (fun _ => by rw [gi_ne (by decide), gi_ne (by decide)]) (by rw [gi_ne (by omega), gi_ne (by omega)]) (fun _ => by rw [gi_ne (by omega), gi_ne (by omega)]) hS
    obtain ⟨d1, d2⟩ := hold_C (a := kC B L q) hc (by omega) hs (by omega) hS1
    have hg : ∀ x k, x ≠ 22 → ¬ (x = 21 ∧ (k = 3 ∨ k = 5 ∨ k = 6)) → gi (si (si (si (si G 21 5 (o + u)) 21 6 (nt + w)) 22 s.length (kC B L q)) 21 3 ((s.length : Int) + 1)) x k = gi G x k := fun x k z1 z2 => by rw [gi_si, if_neg (by omega), gi_ne z1, gi_si, if_neg (by omega), gi_si, if_neg (by omega)]
    have v5 : gi (si (si (si (si G 21 5 (o + u)) 21 6 (nt + w)) 22 s.length (kC B L q)) 21 3 ((s.length : Int) + 1)) 21 5 = o + u := by rw [gi_si, if_neg (by omega), gi_ne (by decide), gi_si, if_neg (by omega), gi_si, if_pos ⟨rfl, rfl⟩]; exact wr_of (by omega) (by omega)
    have v6 : gi (si (si (si (si G 21 5 (o + u)) 21 6 (nt + w)) 22 s.length (kC B L q)) 21 3 ((s.length : Int) + 1)) 21 6 = nt + w := by rw [gi_si, if_neg (by omega), gi_ne (by decide), gi_si, if_pos ⟨rfl, rfl⟩]; exact wr_of (by omega) (by omega)
    have hF : FL G (si (si (si (si G 21 5 (o + u)) 21 6 (nt + w)) 22 s.length (kC B L q)) 21 3 ((s.length : Int) + 1)) c := (FL_21 (by decide)).trans ((FL_21 (by decide)).trans (FL_22.trans (FL_21 (by decide))))
    have e0 : f_LawReader_operand_L181 (si G 21 5 (o + u)) (kC B L q) w nt = (f_LawReader_hold (si (si G 21 5 (o + u)) 21 6 (nt + w)) (kC B L q)).bind fun q1 => (f_LawReader_goBehind q1 (kC B L q)).bind fun q2 => some (1, q2) := rfl
    rw [e0, d1, Option.bind_some]
    generalize si (si (si (si G 21 5 (o + u)) 21 6 (nt + w)) 22 s.length (kC B L q)) 21 3 ((s.length : Int) + 1) = G1 at *
    have hA1 : atC G1 B L i q := atC_fr (hg 15 6 (by decide) (by omega)) (hg 15 7 (by decide) (by omega)) (fun x k z1 z2 => hg x k (by omega) (by omega)) hA
    obtain ⟨G', r1, r2, r3⟩ := behind_C (a := kC B L q) (o := o + u) (nt := nt + w) (cmp := cmp) (cond := cond) hc (wr_of (by omega) (by omega)) hq hA1 (by rw [hg 15 8 (by decide) (by omega)]; exact h8) d2 v5 v6 (by rw [hg 21 7 (by decide) (by omega)]; exact h7) (by rw [hg 21 8 (by decide) (by omega)]; exact h8') (by rw [List.length_cons]; omega)
    exact ⟨G', by rw [r1]; rfl, hF.trans r2, r3⟩
  have e160 : ∀ u : Int, (u = 0 ∨ u = 1) → f_LawReader_operand_L160 G (kC B L q) u o = f_LawReader_operand_L181 (si G 21 5 (o + u)) (kC B L q) (if kC B L q = 129 then 1 else 0) nt := by
    intro u hu
    have v6 : gi (si G 21 5 (o + u)) 21 6 = nt := by rw [gi_si, if_neg (by omega)]; exact h6
    simp only [f_LawReader_operand_L160, wG, v6]
    split <;> rfl
  have e119 : f_LawReader_operand_L119 G (kC B L q) = f_LawReader_operand_L160 G (kC B L q) (if kC B L q = 40 then 1 else 0) o := by
    rw [f_LawReader_operand_L119, h5, h6, if_pos (by rw [wr_of (by omega) (by omega)]; omega)]
    split <;> rfl
  obtain ⟨G', r1, r2, r3⟩ := e181 (if kC B L q = 40 then 1 else 0) (if kC B L q = 129 then 1 else 0) (by split <;> omega) (by split <;> omega)
  refine ⟨G', ?_, r2, r3⟩
  have e2 : f_LawReader_isAsked G (kC B L q) = some 0 := by
    rw [f_LawReader_isAsked]
    rcases hK with z | z
    · rw [if_pos (by omega)]
    · rw [if_neg (by omega), if_pos (by omega)]
  have hlast : last ≠ 47 := by omega
  rw [f_LawReader_operand, h4, if_neg hlast, f_LawReader_operand_L14, if_neg (by omega), e2, Option.bind_some, if_pos rfl, f_LawReader_operand_L84]
  rw [← e160 _ (by split <;> omega), ← e119] at r1
  rcases hK with z | z
  · rw [if_pos z.1, if_pos rfl, r1]
  · rw [if_neg (by omega), f_LawReader_operand_L94, if_pos z.1, may_N h4 h7, if_pos z.2, Option.bind_some, if_neg (by decide), r1]
/-- a fault at an operand -/
theorem opr_1 {G : GS} {c : Nat} {B : Nat → Int} {L i q : Nat} {s cd : List Int} {o nt cmp cond last : Int} (h : LSf G c B L i q s cd o nt cmp cond last) (h1 : kC B L q ≠ 2) (h2 : ¬ ((100 ≤ kC B L q ∧ kC B L q ≤ 106) ∧ last ≠ 47)) (h3 : ¬ (kC B L q = 40 ∧ last ≠ 47)) (h4' : ¬ (kC B L q = 129 ∧ cond ≠ 0 ∧ (last = 0 ∨ last = 129 ∨ last = 128 ∨ last = 127))) : f_LawReader_operand G (kC B L q) = some (1, flt G 1 q) := by
  obtain ⟨hA, h8, hS, ⟨h4, h5, h6, h7, h8'⟩, hi⟩ := h
  have e108 : f_LawReader_operand_L108 G = some (1, flt G 1 q) := by rw [f_LawReader_operand_L108, fail_at hA h8]; rfl
  have e94 : f_LawReader_operand_L94 G (kC B L q) = some (1, flt G 1 q) := by
    rw [f_LawReader_operand_L94]
    by_cases z : kC B L q = 129
    · rw [if_pos z, may_N h4 h7, if_neg (fun y => h4' ⟨z, y⟩), Option.bind_some, if_pos rfl, e108]
    · rw [if_neg z, e108]
  have e84 : ∀ x : Int, (x = 0 → last ≠ 47) → f_LawReader_operand_L84 G (kC B L q) x = some (1, flt G 1 q) := by
    intro x hx
    rw [f_LawReader_operand_L84]
    by_cases z : kC B L q = 40
    · rw [if_pos z, if_neg (fun y => h3 ⟨z, hx y⟩), e94]
    · rw [if_neg z, e94]
  have e14 : ∀ x : Int, (x = 0 → last ≠ 47) → f_LawReader_operand_L14 G (kC B L q) x = some (1, flt G 1 q) := by
    intro x hx
    rw [f_LawReader_operand_L14, if_neg h1, f_LawReader_isAsked]
    by_cases z : kC B L q < 100
    · rw [if_pos z, Option.bind_some, if_pos rfl, e84 x hx]
    · rw [if_neg z]
      by_cases y : 107 ≤ kC B L q
      · rw [if_pos y, Option.bind_some, if_pos rfl, e84 x hx]
      · rw [if_neg y, Option.bind_some, if_neg (by decide), if_neg (fun w => h2 ⟨by omega, hx w⟩), e84 x hx]
  rw [f_LawReader_operand, h4]
  by_cases z : last = 47
  · rw [if_pos z, e14 1 (by omega)]
  · rw [if_neg z, e14 0 (fun _ => z)]
theorem opr_3 {G : GS} {c : Nat} {B : Nat → Int} {L i q : Nat} {s cd : List Int} {o nt cmp cond last : Int} (h : LSf G c B L i q s cd o nt cmp cond last) (ho : 0 ≤ o ∧ 0 ≤ nt ∧ o ≤ 8 ∧ nt ≤ 8 ∧ 8 ≤ o + nt) (hK : (kC B L q = 40 ∧ last ≠ 47) ∨ (kC B L q = 129 ∧ cond ≠ 0 ∧ (last = 0 ∨ last = 129 ∨ last = 128 ∨ last = 127))) : f_LawReader_operand G (kC B L q) = some (1, flt G 3 q) := by
  obtain ⟨hA, h8, hS, ⟨h4, h5, h6, h7, h8'⟩, hi⟩ := h
  have e119 : f_LawReader_operand_L119 G (kC B L q) = some (1, flt G 3 q) := by
    rw [f_LawReader_operand_L119, h5, h6, if_neg (by rw [wr_of (by omega) (by omega)]; omega), fail_at hA h8]; rfl
  have e2 : f_LawReader_isAsked G (kC B L q) = some 0 := by
    rw [f_LawReader_isAsked]
    rcases hK with z | z
    · rw [if_pos (by omega)]
    · rw [if_neg (by omega), if_pos (by omega)]
  have hlast : last ≠ 47 := by omega
  rw [f_LawReader_operand, h4, if_neg hlast, f_LawReader_operand_L14, if_neg (by omega), e2, Option.bind_some, if_pos rfl, f_LawReader_operand_L84]
  rcases hK with z | z
  · rw [if_pos z.1, if_pos rfl, e119]
  · rw [if_neg (by omega), f_LawReader_operand_L94, if_pos z.1, may_N h4 h7, if_pos z.2, Option.bind_some, if_neg (by decide), e119]
theorem opr_2 {G : GS} {c : Nat} {B : Nat → Int} {L i q : Nat} {s cd : List Int} {o nt cmp cond last : Int} (hc : lawC c = true) (h : LSf G c B L i q s cd o nt cmp cond last) (h1 : kC B L q = 2) (hl : last = 47) (hv : vC B L q = 0) : ∃ G', f_LawReader_operand G (kC B L q) = some (0, G') ∧ FL G G' c ∧ SB G' c s (cd ++ [0]) ∧ gi G' 15 8 = 2 ∧ (q ≤ 800 → gi G' 15 9 = q) := by
  obtain ⟨hA, h8, hS, ⟨h4, h5, h6, h7, h8'⟩, hi⟩ := h
  have hr := law_rng hc
  have hi8 := (atC_hd hA).1
  have hS1 := SB_flt (q := q) (k := 2) hc hS
  have hA1 : atC (flt G 2 q) B L i q := flt_at hA
  have h81 : gi (flt G 2 q) 15 8 = 2 := flt_8 rfl
  refine ⟨si (si (flt G 2 q) (c + 5) cd.length 0) c 9 ((cd.length : Int) + 1), ?_, (FL_flt (by decide)).trans FL_lp, SB_put hc rfl (by omega) hS1, ?_, fun hq => ?_⟩
  · rw [f_LawReader_operand, h4, if_pos hl, f_LawReader_operand_L14, if_pos h1, f_LawReader_operand_L31, if_neg (by decide), value_at hA, Option.bind_some, if_pos hv, fail_at hA h8, Option.bind_some, f_LawReader_operand_L53, gd, if_pos (by rw [hS1.1]; exact hc), hS1.1, if_pos h1, value_at hA1, Option.bind_some, hv, f_LawReader_operand_L74, put_L hS1.2.2.2.2.1 (by omega), Option.bind_some, f_LawReader_goBehind, if_neg (by rw [gi_ne (by omega), gi_ne (by omega), h81]; decide)]
    rfl
  · rw [gi_ne (by omega), gi_ne (by omega), h81]
  · rw [gi_ne (by omega), gi_ne (by omega), flt_9 hq]
theorem mayF {G : GS} {o cmp cond a : Int} (h5 : gi G 21 5 = o) (h7 : gi G 21 7 = cond) (h8 : gi G 21 8 = cmp) : f_LawReader_mayFollow G a = some (if (a = 41 ∧ 0 < o) ∨ (a = 42 ∨ a = 43 ∨ a = 45 ∨ a = 47) ∨ ((a = 60 ∨ a = 61 ∨ a = 62) ∧ cond ≠ 0 ∧ o = 0 ∧ cmp = 0) ∨ ((a = 127 ∨ a = 128) ∧ cond ≠ 0 ∧ o = 0 ∧ cmp ≠ 0) then 1 else 0) := by
  rw [f_LawReader_mayFollow, h5, h7, h8]
  by_cases hP : (a = 41 ∧ 0 < o) ∨ (a = 42 ∨ a = 43 ∨ a = 45 ∨ a = 47) ∨ ((a = 60 ∨ a = 61 ∨ a = 62) ∧ cond ≠ 0 ∧ o = 0 ∧ cmp = 0) ∨ ((a = 127 ∨ a = 128) ∧ cond ≠ 0 ∧ o = 0 ∧ cmp ≠ 0)
  · rw [if_pos hP]
    rcases hP with ⟨e, z⟩ | (e | e | e | e) | ⟨e | e | e, z1, z2, z3⟩ | ⟨e | e, z1, z2, z3⟩
    · rw [if_pos e, if_neg (by omega)]
    · rw [if_neg (by omega), if_pos e]
    · rw [if_neg (by omega), if_neg (by omega), if_pos e]
    · rw [if_neg (by omega), if_neg (by omega), if_neg (by omega), if_pos e]
    · rw [if_neg (by omega), if_neg (by omega), if_neg (by omega), if_neg (by omega), if_pos e]
    · rw [if_neg (show ¬ a = 41 by omega), if_neg (show ¬ a = 42 by omega), if_neg (show ¬ a = 43 by omega), if_neg (show ¬ a = 45 by omega), if_neg (show ¬ a = 47 by omega), if_pos e, if_neg z1, if_pos z2, if_pos z3]
    · rw [if_neg (show ¬ a = 41 by omega), if_neg (show ¬ a = 42 by omega), if_neg (show ¬ a = 43 by omega), if_neg (show ¬ a = 45 by omega), if_neg (show ¬ a = 47 by omega), if_neg (show ¬ a = 60 by omega), if_pos e, if_neg z1, if_pos z2, if_pos z3]
    · rw [if_neg (show ¬ a = 41 by omega), if_neg (show ¬ a = 42 by omega), if_neg (show ¬ a = 43 by omega), if_neg (show ¬ a = 45 by omega), if_neg (show ¬ a = 47 by omega), if_neg (show ¬ a = 60 by omega), if_neg (show ¬ a = 61 by omega), if_pos e, if_neg z1, if_pos z2, if_pos z3]
    · rw [if_neg (show ¬ a = 41 by omega), if_neg (show ¬ a = 42 by omega), if_neg (show ¬ a = 43 by omega), if_neg (show ¬ a = 45 by omega), if_neg (show ¬ a = 47 by omega), if_neg (show ¬ a = 60 by omega), if_neg (show ¬ a = 61 by omega), if_neg (show ¬ a = 62 by omega), if_pos e, if_neg z1, if_pos z2, if_neg z3]
    · rw [if_neg (show ¬ a = 41 by omega), if_neg (show ¬ a = 42 by omega), if_neg (show ¬ a = 43 by omega), if_neg (show ¬ a = 45 by omega), if_neg (show ¬ a = 47 by omega), if_neg (show ¬ a = 60 by omega), if_neg (show ¬ a = 61 by omega), if_neg (show ¬ a = 62 by omega), if_neg (show ¬ a = 127 by omega), if_pos e, if_neg z1, if_pos z2, if_neg z3]
  · rw [if_neg hP]
    by_cases c41 : a = 41
    · rw [if_pos c41, if_pos (by omega)]
    · rw [if_neg c41, if_neg (show ¬ a = 42 by omega), if_neg (show ¬ a = 43 by omega), if_neg (show ¬ a = 45 by omega), if_neg (show ¬ a = 47 by omega)]
      by_cases c60 : a = 60
      · rw [if_pos c60]
        by_cases y1 : cond = 0
        · rw [if_pos y1]
        · rw [if_neg y1]
          by_cases y2 : o = 0
          · rw [if_pos y2, if_neg (by omega)]
          · rw [if_neg y2]
      · rw [if_neg c60]
        by_cases c61 : a = 61
        · rw [if_pos c61]
          by_cases y1 : cond = 0
          · rw [if_pos y1]
          · rw [if_neg y1]
            by_cases y2 : o = 0
            · rw [if_pos y2, if_neg (by omega)]
            · rw [if_neg y2]
        · rw [if_neg c61]
          by_cases c62 : a = 62
          · rw [if_pos c62]
            by_cases y1 : cond = 0
            · rw [if_pos y1]
            · rw [if_neg y1]
              by_cases y2 : o = 0
              · rw [if_pos y2, if_neg (by omega)]
              · rw [if_neg y2]
          · rw [if_neg c62]
            by_cases c127 : a = 127
            · rw [if_pos c127]
              by_cases y1 : cond = 0
              · rw [if_pos y1]
              · rw [if_neg y1]
                by_cases y2 : o = 0
                · rw [if_pos y2, if_pos (by omega)]
                · rw [if_neg y2]
            · rw [if_neg c127]
              by_cases c128 : a = 128
              · rw [if_pos c128]
                by_cases y1 : cond = 0
                · rw [if_pos y1]
                · rw [if_neg y1]
                  by_cases y2 : o = 0
                  · rw [if_pos y2, if_pos (by omega)]
                  · rw [if_neg y2]
              · rw [if_neg c128]
