/-! operators in the class; the reference's steps -/
theorem op_C {G : GS} {c : Nat} {B : Nat → Int} {L i q : Nat} {t s cd : List Int} {o nt cmp cond last : Int} (hc : lawC c = true) (h : LSf G c B L i q (t ++ s) cd o nt cmp cond last) (ht : ∀ a ∈ t, rk (kC B L q) ≤ rk a) (hs : lowS (rk (kC B L q)) s) (hl : s.length + 1 ≤ 60) (hK : kC B L q = 42 ∨ kC B L q = 43 ∨ kC B L q = 45 ∨ kC B L q = 47 ∨ kC B L q = 60 ∨ kC B L q = 61 ∨ kC B L q = 62 ∨ kC B L q = 127 ∨ kC B L q = 128) : ∃ G', f_LawReader_operator G (kC B L q) = some (1, G') ∧ FL G G' c ∧ LSf G' c B L (i + 1) (nq B L q) (kC B L q :: s) (cd ++ flush t) o (if kC B L q = 127 ∨ kC B L q = 128 then 0 else nt) (if kC B L q = 127 ∨ kC B L q = 128 then 0 else if kC B L q = 60 ∨ kC B L q = 61 ∨ kC B L q = 62 then 1 else cmp) cond (kC B L q) := by
  obtain ⟨hA, h8, hS, ⟨h4, h5, h6, h7, h8'⟩, hi⟩ := h
  have hr := law_rng hc
  have hi8 := (atC_hd hA).1
  have hq : q < L := kC_lt (B := B) (by omega)
  have hlen : (t ++ s).length = t.length + s.length := List.length_append
  have hfl := flush_len t
  obtain ⟨G1, a1, a2, a3⟩ := settle_C hc hS ht hs
  obtain ⟨b1, b2⟩ := hold_C (a := kC B L q) hc (by omega) hl (by rw [List.length_append]; omega) a3
  have hg : ∀ x k, x = 15 ∨ (18 ≤ x ∧ x ≤ 20) ∨ (x = 21 ∧ k ≠ 3) → gi (si (si G1 22 s.length (kC B L q)) 21 3 ((s.length : Int) + 1)) x k = gi G x k := fun x k z => by rw [gi_si, if_neg (by omega), gi_ne (by omega), a2.1 x k (by omega) (by omega) (by omega)]
  have hF : FL G (si (si G1 22 s.length (kC B L q)) 21 3 ((s.length : Int) + 1)) c := a2.fl.trans (FL_22.trans (FL_21 (by decide)))
  have e0 : f_LawReader_operator G (kC B L q) = (if kC B L q = 128 then f_LawReader_operator_L72 (si (si G1 22 s.length (kC B L q)) 21 3 ((s.length : Int) + 1)) (kC B L q) else if kC B L q = 127 then f_LawReader_operator_L72 (si (si G1 22 s.length (kC B L q)) 21 3 ((s.length : Int) + 1)) (kC B L q) else if rk (kC B L q) = 4 then f_LawReader_operator_L102 (si (si (si G1 22 s.length (kC B L q)) 21 3 ((s.length : Int) + 1)) 21 8 1) (kC B L q) else f_LawReader_operator_L102 (si (si G1 22 s.length (kC B L q)) 21 3 ((s.length : Int) + 1)) (kC B L q)) := by
    rw [f_LawReader_operator, if_neg (by omega), rank_eq, Option.bind_some, a1, Option.bind_some, b1, Option.bind_some]
    simp only [rank_eq, Option.bind_some, show rk 61 = 4 from rfl]
    rfl
  rw [e0]
  generalize si (si G1 22 s.length (kC B L q)) 21 3 ((s.length : Int) + 1) = G2 at *
  have hA2 : atC G2 B L i q := atC_fr (hg 15 6 (by omega)) (hg 15 7 (by omega)) (fun x k z1 z2 => hg x k (by omega)) hA
  have m8 : gi G2 15 8 = 0 := by rw [hg 15 8 (by omega)]; exact h8
  have m5 : gi G2 21 5 = o := by rw [hg 21 5 (by omega)]; exact h5
  have m6 : gi G2 21 6 = nt := by rw [hg 21 6 (by omega)]; exact h6
  have m7 : gi G2 21 7 = cond := by rw [hg 21 7 (by omega)]; exact h7
  have m8' : gi G2 21 8 = cmp := by rw [hg 21 8 (by omega)]; exact h8'
  have hb : (cd ++ flush t).length + (kC B L q :: s).length ≤ i := by rw [List.length_append, List.length_cons]; omega
  have hwk : wr (kC B L q) = kC B L q := wr_of (by omega) (by omega)
  have e102 : ∀ G3 : GS, f_LawReader_operator_L102 G3 (kC B L q) = (f_LawReader_goBehind G3 (kC B L q)).bind fun q1 => some (1, q1) := fun _ => rfl
  have c72 : (kC B L q = 127 ∨ kC B L q = 128) → ∃ G', f_LawReader_operator_L72 G2 (kC B L q) = some (1, G') ∧ FL G G' c ∧ LSf G' c B L (i + 1) (nq B L q) (kC B L q :: s) (cd ++ flush t) o (if kC B L q = 127 ∨ kC B L q = 128 then 0 else nt) (if kC B L q = 127 ∨ kC B L q = 128 then 0 else if kC B L q = 60 ∨ kC B L q = 61 ∨ kC B L q = 62 then 1 else cmp) cond (kC B L q) := by
    intro z
    have e72 : f_LawReader_operator_L72 G2 (kC B L q) = f_LawReader_operator_L102 (si (si G2 21 8 0) 21 6 0) (kC B L q) := rfl
    have hg2 : ∀ x k, ¬ (x = 21 ∧ (k = 8 ∨ k = 6)) → gi (si (si G2 21 8 0) 21 6 0) x k = gi G2 x k := fun x k y => by rw [gi_si, if_neg (by omega), gi_si, if_neg (by omega)]
    have n6 : gi (si (si G2 21 8 0) 21 6 0) 21 6 = 0 := by rw [gi_si, if_pos ⟨rfl, rfl⟩]; exact wr_zero
    have n8 : gi (si (si G2 21 8 0) 21 6 0) 21 8 = 0 := by rw [gi_si, if_neg (by omega), gi_si, if_pos ⟨rfl, rfl⟩]; exact wr_zero
    have hF2 : FL G (si (si G2 21 8 0) 21 6 0) c := hF.trans ((FL_21 (by decide)).trans (FL_21 (by decide)))
    have hS2 : SB (si (si G2 21 8 0) 21 6 0) c (kC B L q :: s) (cd ++ flush t) := SB_fr (G := G2) (fun _ _ => rfl) (hg2 _ _ (by omega)) (fun _ => hg2 _ _ (by omega)) (hg2 _ _ (by omega)) (fun _ => hg2 _ _ (by omega)) b2
    rw [e72, e102]
    generalize si (si G2 21 8 0) 21 6 0 = G3 at *
    have hA3 : atC G3 B L i q := atC_fr (hg2 15 6 (by omega)) (hg2 15 7 (by omega)) (fun x k z1 z2 => hg2 x k (by omega)) hA2
    obtain ⟨G', r1, r2, r3⟩ := behind_C (a := kC B L q) (o := o) (nt := 0) (cmp := 0) (cond := cond) hc hwk hq hA3 (by rw [hg2 15 8 (by omega)]; exact m8) hS2 (by rw [hg2 21 5 (by omega)]; exact m5) n6 (by rw [hg2 21 7 (by omega)]; exact m7) n8 hb
    refine ⟨G', by rw [r1]; rfl, hF2.trans r2, ?_⟩
    rw [if_pos z, if_pos z]
    exact r3
  by_cases z1 : kC B L q = 128
  · rw [if_pos z1]
    exact c72 (Or.inr z1)
  · rw [if_neg z1]
    by_cases z2 : kC B L q = 127
    · rw [if_pos z2]
      exact c72 (Or.inl z2)
    · rw [if_neg z2, if_neg (show ¬ (kC B L q = 127 ∨ kC B L q = 128) by omega), if_neg (show ¬ (kC B L q = 127 ∨ kC B L q = 128) by omega)]
      by_cases z3 : kC B L q = 60 ∨ kC B L q = 61 ∨ kC B L q = 62
      · have e4 : rk (kC B L q) = 4 := by rcases z3 with z | z | z <;> rw [z] <;> rfl
        have hg2 : ∀ x k, ¬ (x = 21 ∧ k = 8) → gi (si G2 21 8 1) x k = gi G2 x k := fun x k y => by rw [gi_si, if_neg y]
        have n8 : gi (si G2 21 8 1) 21 8 = 1 := by rw [gi_si, if_pos ⟨rfl, rfl⟩]; rfl
        have hF2 : FL G (si G2 21 8 1) c := hF.trans (FL_21 (by decide))
        have hS2 : SB (si G2 21 8 1) c (kC B L q :: s) (cd ++ flush t) := SB_fr (G := G2) (fun _ _ => rfl) (hg2 _ _ (by omega)) (fun _ => hg2 _ _ (by omega)) (hg2 _ _ (by omega)) (fun _ => hg2 _ _ (by omega)) b2
        rw [if_pos e4, e102, if_pos z3]
        generalize si G2 21 8 1 = G3 at *
        have hA3 : atC G3 B L i q := atC_fr (hg2 15 6 (by omega)) (hg2 15 7 (by omega)) (fun x k z1 z2 => hg2 x k (by omega)) hA2
        obtain ⟨G', r1, r2, r3⟩ := behind_C (a := kC B L q) (o := o) (nt := nt) (cmp := 1) (cond := cond) hc hwk hq hA3 (by rw [hg2 15 8 (by omega)]; exact m8) hS2 (by rw [hg2 21 5 (by omega)]; exact m5) (by rw [hg2 21 6 (by omega)]; exact m6) (by rw [hg2 21 7 (by omega)]; exact m7) n8 hb
        exact ⟨G', by rw [r1]; rfl, hF2.trans r2, r3⟩
      · have e4 : rk (kC B L q) ≠ 4 := by
          rcases hK with z | z | z | z | z | z | z | z | z
          any_goals omega
          all_goals rw [z]; decide
        rw [if_neg e4, e102, if_neg z3]
        obtain ⟨G', r1, r2, r3⟩ := behind_C (a := kC B L q) (o := o) (nt := nt) (cmp := cmp) (cond := cond) hc hwk hq hA2 m8 b2 m5 m6 m7 m8' hb
        exact ⟨G', by rw [r1]; rfl, hF.trans r2, r3⟩
theorem close_C {G : GS} {c : Nat} {B : Nat → Int} {L i q : Nat} {t s cd : List Int} {o nt cmp cond last : Int} (hc : lawC c = true) (h : LSf G c B L i q (t ++ 40 :: s) cd o nt cmp cond last) (ht : ∀ a ∈ t, 1 ≤ rk a) (hK : kC B L q = 41) (ho : 1 ≤ o ∧ o ≤ 8) : ∃ G', f_LawReader_operator G 41 = some (0, G') ∧ FL G G' c ∧ LSf G' c B L (i + 1) (nq B L q) s (cd ++ flush t) (o - 1) nt cmp cond 41 := by
  obtain ⟨hA, h8, hS, ⟨h4, h5, h6, h7, h8'⟩, hi⟩ := h
  have hr := law_rng hc
  have hi8 := (atC_hd hA).1
  have hq : q < L := kC_lt (B := B) (by omega)
  have hlen : (t ++ 40 :: s).length = t.length + (s.length + 1) := by rw [List.length_append, List.length_cons]
  have hfl := flush_len t
  obtain ⟨G1, a1, a2, a3⟩ := settle_C (r := 1) hc hS ht (show rk 40 < 1 by decide)
  have e3 : gi G1 21 3 = ((s.length + 1 : Nat) : Int) := a3.2.1
  have e5 : gi (si G1 21 3 (s.length : Int)) 21 5 = o := by rw [gi_si, if_neg (by omega), a2.1 21 5 (by omega) (by omega) (by omega)]; exact h5
  have hw : wr (((s.length + 1 : Nat) : Int) - 1) = s.length := by rw [wr_of (by omega) (by omega)]; omega
  have e0 : f_LawReader_operator G 41 = (f_LawReader_goBehind (si (si G1 21 3 (s.length : Int)) 21 5 (o - 1)) 41).bind fun q8 => some (0, q8) := by
    rw [f_LawReader_operator, if_pos rfl, rank_eq, Option.bind_some, show rk 127 = 1 from rfl, a1, Option.bind_some, e3, hw, show max (0 : Int) (s.length : Int) = s.length by omega]
    simp only [wG, e5]
  have hg : ∀ x k, ¬ (x = 21 ∧ (k = 3 ∨ k = 5)) → gi (si (si G1 21 3 (s.length : Int)) 21 5 (o - 1)) x k = gi G1 x k := fun x k z => by rw [gi_si, if_neg (by omega), gi_si, if_neg (by omega)]
  have hg2 : ∀ x k, x = 15 ∨ (18 ≤ x ∧ x ≤ 20) ∨ (x = 21 ∧ k ≠ 3) → gi G1 x k = gi G x k := fun x k z => a2.1 x k (by omega) (by omega) (by omega)
  have v5 : gi (si (si G1 21 3 (s.length : Int)) 21 5 (o - 1)) 21 5 = o - 1 := by rw [gi_si, if_pos ⟨rfl, rfl⟩]; exact wr_of (by omega) (by omega)
  have v3 : gi (si (si G1 21 3 (s.length : Int)) 21 5 (o - 1)) 21 3 = (s.length : Nat) := by rw [gi_si, if_neg (by omega), gi_si, if_pos ⟨rfl, rfl⟩]; exact wr_of (by omega) (by omega)
  have hp : ∀ x k, gp (si (si G1 21 3 (s.length : Int)) 21 5 (o - 1)) x k = gp G1 x k := fun _ _ => rfl
  have hF : FL G (si (si G1 21 3 (s.length : Int)) 21 5 (o - 1)) c := a2.fl.trans ((FL_21 (by decide)).trans (FL_21 (by decide)))
  rw [e0]
  generalize si (si G1 21 3 (s.length : Int)) 21 5 (o - 1) = G2 at *
  obtain ⟨s1, s2, s3, s4, s5, s6, s7, s8⟩ := a3
  rw [List.length_cons] at s7 s8
  have hS2 : SB G2 c s (cd ++ flush t) := ⟨by rw [hp]; exact s1, v3, Cs_fr _ (fun j _ => hg 22 j (by omega)) s3.2, fun a ha => s4 a (List.mem_cons_of_mem _ ha), by rw [hg c 9 (by omega)]; exact s5, Ar_fr (fun j _ => hg (c + 5) j (by omega)) s6, by omega, by omega⟩
  have hA2 : atC G2 B L i q := atC_fr (by rw [hg 15 6 (by omega), hg2 15 6 (by omega)]) (by rw [hg 15 7 (by omega), hg2 15 7 (by omega)]) (fun x k z1 z2 => by rw [hg x k (by omega), hg2 x k (by omega)]) hA
  obtain ⟨G', r1, r2, r3⟩ := behind_C (a := 41) (o := o - 1) (nt := nt) (cmp := cmp) (cond := cond) hc rfl hq hA2 (by rw [hg 15 8 (by omega), hg2 15 8 (by omega)]; exact h8) hS2 v5 (by rw [hg 21 6 (by omega), hg2 21 6 (by omega)]; exact h6) (by rw [hg 21 7 (by omega), hg2 21 7 (by omega)]; exact h7) (by rw [hg 21 8 (by omega), hg2 21 8 (by omega)]; exact h8') (by rw [List.length_append]; omega)
  exact ⟨G', by rw [r1]; rfl, hF.trans r2, r3⟩
/-- where the reference stands in a formula -/
def A2 (G : GS) (l : Fm) : Prop := ∀ j, j < l.length → gi G 116 (2 * j) = (l.getD j (0, 0)).1 ∧ gi G 116 (2 * j + 1) = (l.getD j (0, 0)).2
def MS (G : GS) (B : Nat → Int) (L q : Nat) (d : Int) (st : Fm) : Prop := atM G 1 B L q ∧ gi G 81 51 = d ∧ gi G 81 42 = (st.length : Nat) ∧ A2 G st ∧ gi G 81 48 = 0
def FH (G G' : GS) : Prop := (∀ x k, ¬ (x = 81 ∧ (k = 42 ∨ (44 ≤ k ∧ k ≤ 49) ∨ k = 51 ∨ k = 54)) → x ≠ 116 → gi G' x k = gi G x k) ∧ ∀ x k, gp G' x k = gp G x k
theorem FH.rfl' {G : GS} : FH G G := ⟨fun _ _ _ _ => rfl, fun _ _ => rfl⟩
theorem FH.trans {G G' G'' : GS} (h : FH G G') (h' : FH G' G'') : FH G G'' := ⟨fun x k a1 a2 => by rw [h'.1 x k a1 a2, h.1 x k a1 a2], fun x k => by rw [h'.2, h.2]⟩
theorem FH_Mx {G G' : GS} (h : Mx G G') : FH G G' := ⟨fun x k a1 a2 => h.1 x k (by omega), h.2⟩
theorem FH_51 {G : GS} {v : Int} : FH G (si G 81 51 v) := ⟨fun x k a1 a2 => by rw [gi_si, if_neg (by omega)], fun _ _ => rfl⟩
theorem FH_bad {G : GS} {q : Nat} {v : Int} : FH G (bad G v q) := ⟨fun x k a1 a2 => bad_gi (by omega), fun _ _ => rfl⟩
theorem MS_Mx {G G' : GS} {B : Nat → Int} {L q q' : Nat} {d : Int} {st : Fm} (hA : atM G' 1 B L q') (h : Mx G G') (hM : MS G B L q d st) : MS G' B L q' d st := by
  obtain ⟨a1, a2, a3, a4, a5⟩ := hM
  exact ⟨hA, by rw [h.1 81 51 (by omega)]; exact a2, by rw [h.1 81 42 (by omega)]; exact a3, fun j hj => by rw [h.1 116 _ (by omega), h.1 116 _ (by omega)]; exact a4 j hj, by rw [h.1 81 48 (by omega)]; exact a5⟩
theorem lay_M {G : GS} {B : Nat → Int} {L q : Nat} {d : Int} {st : Fm} {a b : Int} (ha : wr a = a) (hb : wr b = b) (hl : st.length < 810) (h : MS G B L q d st) : ∃ G', f_Model_lay G a b = some G' ∧ FH G G' ∧ MS G' B L q d (st ++ [(a, b)]) ∧ (∀ k, 43 ≤ k → gi G' 81 k = gi G 81 k) := by
  obtain ⟨a1, a2, a3, a4, a5⟩ := h
  have hw : wr (2 * (gi G 81 42)) = ((2 * st.length : Nat) : Int) := by rw [a3, wr_of (by omega) (by omega)]; omega
  have e42 : gi (si G 116 (2 * st.length) a) 81 42 = (st.length : Nat) := by rw [gi_ne (by decide)]; exact a3
  have hw2 : wr ((2 * ((st.length : Nat) : Int)) + 1) = ((2 * st.length + 1 : Nat) : Int) := by rw [wr_of (by omega) (by omega)]; omega
  have e42' : gi (si (si G 116 (2 * st.length) a) 116 (2 * st.length + 1) b) 81 42 = (st.length : Nat) := by rw [gi_ne (by decide), gi_ne (by decide)]; exact a3
  refine ⟨si (si (si G 116 (2 * st.length) a) 116 (2 * st.length + 1) b) 81 42 ((st.length : Int) + 1), ?_, ⟨fun x k z1 z2 => by rw [gi_si, if_neg (by omega), gi_ne z2, gi_ne z2], fun _ _ => rfl⟩, ⟨atM_si (by decide) (atM_sj (by decide) (atM_sj (by decide) a1)), ?_, ?_, ?_, by rw [gi_si, if_neg (by omega), gi_ne (by decide), gi_ne (by decide)]; exact a5⟩, fun k hk => by rw [gi_si, if_neg (by omega), gi_ne (by decide), gi_ne (by decide)]⟩
  · rw [f_Model_lay, hw, gd, if_pos (by omega)]
    simp only [wG, Int.toNat_natCast, e42, hw2]
    rw [gd, if_pos (by omega)]
    simp only [e42']
  · rw [gi_si, if_neg (by omega), gi_ne (by decide), gi_ne (by decide)]; exact a2
  · rw [gi_si, if_pos ⟨rfl, rfl⟩, List.length_append, wr_of (by omega) (by omega)]; simp
  · intro j hj
    have hz : ∀ k, gi (si (si (si G 116 (2 * st.length) a) 116 (2 * st.length + 1) b) 81 42 ((st.length : Int) + 1)) 116 k = if k = 2 * st.length + 1 then wr b else if k = 2 * st.length then wr a else gi G 116 k := fun k => by rw [gi_ne (by decide), gi_sm, gi_sm]
    rw [getD_push hj, hz, hz]
    rw [List.length_append] at hj
    simp only [List.length_singleton] at hj
    by_cases z : j = st.length
    · rw [if_pos z, if_neg (show ¬ 2 * j = 2 * st.length + 1 by omega), if_pos (show 2 * j = 2 * st.length by omega), if_pos (show 2 * j + 1 = 2 * st.length + 1 by omega)]; exact ⟨ha, hb⟩
    · rw [if_neg z, if_neg (show ¬ 2 * j = 2 * st.length + 1 by omega), if_neg (show ¬ 2 * j = 2 * st.length by omega), if_neg (show ¬ 2 * j + 1 = 2 * st.length + 1 by omega), if_neg (show ¬ 2 * j + 1 = 2 * st.length by omega)]; exact a4 j (by omega)
theorem typF_app (f g : Fm) (S : List Bool) : typF (f ++ g) S = (typF f S).bind fun t => typF g t := by
  induction f generalizing S with
  | nil => rfl
  | cons a f ih =>
    rw [List.cons_append, typF_c, typF_c]
    cases typI a S with
    | none => rfl
    | some t => rw [Option.bind_some, Option.bind_some, ih]
theorem clsF_app (f g : Fm) : clsF (f ++ g) = clsF f ++ clsF g := List.flatMap_append
theorem okV_app {f g : Fm} (h : okV f) (h' : okV g) : okV (f ++ g) := fun q hq => by
  rcases List.mem_append.mp hq with z | z
  · exact h q z
  · exact h' q z
