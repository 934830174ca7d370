/-! formulas worked out: pure, in the class, in the reference -/
def bothV (s a b : Int) : Int := if s = 8 then wr (a + b) else if s = 9 then wr (a - b) else if s = 10 then wr (a * b) else if s = 12 then (if a < b then 1 else 0) else if s = 13 then (if a = b then 1 else 0) else if s = 14 then (if b < a then 1 else 0) else if s = 16 then bAnd a b else bOr a b
def evI (A : Nat → Int) (q : Int × Int) (st : List Int) : List Int :=
  if q.1 = 0 then q.2 :: st else if q.1 < 8 then A q.1.toNat :: st else
  if q.1 = 11 then (match st with
    | b :: t => dv b q.2 :: t
    | [] => [])
  else if q.1 = 15 then (match st with
    | b :: t => wr (1 - b) :: t
    | [] => [])
  else (match st with
    | b :: a :: t => bothV q.1 a b :: t
    | _ => st)
def evF (A : Nat → Int) (f : Fm) (st : List Int) : List Int := f.foldl (fun s q => evI A q s) st
def TV : List Bool → List Int → Prop
  | [], [] => True
  | b :: bs, v :: vs => (b = true → v = 0 ∨ v = 1) ∧ wr v = v ∧ TV bs vs
  | _, _ => False
theorem TV_len : ∀ (ty : List Bool) (st : List Int), TV ty st → st.length = ty.length
  | [], [], _ => rfl
  | b :: bs, v :: vs, h => by rw [List.length_cons, List.length_cons, TV_len bs vs h.2.2]
  | [], v :: vs, h => False.elim h
  | b :: bs, [], h => False.elim h
theorem TV_c {b : Bool} {bs : List Bool} {st : List Int} (h : TV (b :: bs) st) : ∃ v vs, st = v :: vs ∧ (b = true → v = 0 ∨ v = 1) ∧ wr v = v ∧ TV bs vs := by
  cases st with
  | nil => exact False.elim h
  | cons v vs => exact ⟨v, vs, rfl, h⟩
theorem typI_c {q : Int × Int} {ty ty' : List Bool} (h : typI q ty = some ty') : ty.length ≤ 60 ∧ ((0 ≤ q.1 ∧ q.1 < 8 ∧ ty' = false :: ty) ∨ (∃ t, ty = false :: false :: t ∧ (q.1 = 8 ∨ q.1 = 9 ∨ q.1 = 10) ∧ ty' = false :: t) ∨ (∃ t, ty = false :: t ∧ q.1 = 11 ∧ (1 ≤ q.2 ∧ q.2 ≤ 99999) ∧ ty' = false :: t) ∨ (∃ t, ty = false :: false :: t ∧ (q.1 = 12 ∨ q.1 = 13 ∨ q.1 = 14) ∧ ty' = true :: t) ∨ (∃ t, ty = true :: t ∧ q.1 = 15 ∧ ty' = true :: t) ∨ (∃ t, ty = true :: true :: t ∧ (q.1 = 16 ∨ q.1 = 17) ∧ ty' = true :: t)) := by
  unfold typI at h
  by_cases c1 : 60 < ty.length
  · rw [if_pos c1] at h; cases h
  · rw [if_neg c1] at h
    refine ⟨by omega, ?_⟩
    by_cases c2 : q.1 < 0
    · rw [if_pos c2] at h; cases h
    · rw [if_neg c2] at h
      by_cases c3 : q.1 < 8
      · rw [if_pos c3] at h
        exact Or.inl ⟨by omega, c3, (Option.some.inj h).symm⟩
      · rw [if_neg c3] at h
        right
        match ty, h with
        | false :: false :: t, h =>
          simp only at h
          by_cases d1 : q.1 ≤ 10
          · rw [if_pos d1] at h
            exact Or.inl ⟨t, rfl, by omega, (Option.some.inj h).symm⟩
          · rw [if_neg d1] at h
            by_cases d2 : q.1 = 11 ∧ 1 ≤ q.2 ∧ q.2 ≤ 99999
            · rw [if_pos d2] at h
              exact Or.inr (Or.inl ⟨false :: t, rfl, d2.1, d2.2, (Option.some.inj h).symm⟩)
            · rw [if_neg d2] at h
              by_cases d3 : 12 ≤ q.1 ∧ q.1 ≤ 14
              · rw [if_pos d3] at h
                exact Or.inr (Or.inr (Or.inl ⟨t, rfl, by omega, (Option.some.inj h).symm⟩))
              · rw [if_neg d3] at h; cases h
        | [false], h =>
          simp only at h
          by_cases d2 : q.1 = 11 ∧ 1 ≤ q.2 ∧ q.2 ≤ 99999
          · rw [if_pos d2] at h
            exact Or.inr (Or.inl ⟨[], rfl, d2.1, d2.2, (Option.some.inj h).symm⟩)
          · rw [if_neg d2] at h; cases h
        | false :: true :: t, h =>
          simp only at h
          by_cases d2 : q.1 = 11 ∧ 1 ≤ q.2 ∧ q.2 ≤ 99999
          · rw [if_pos d2] at h
            exact Or.inr (Or.inl ⟨true :: t, rfl, d2.1, d2.2, (Option.some.inj h).symm⟩)
          · rw [if_neg d2] at h; cases h
        | true :: true :: t, h =>
          simp only at h
          by_cases d1 : q.1 = 15
          · rw [if_pos d1] at h
            exact Or.inr (Or.inr (Or.inr (Or.inl ⟨true :: t, rfl, d1, (Option.some.inj h).symm⟩)))
          · rw [if_neg d1] at h
            by_cases d2 : q.1 = 16 ∨ q.1 = 17
            · rw [if_pos d2] at h
              exact Or.inr (Or.inr (Or.inr (Or.inr ⟨t, rfl, d2, (Option.some.inj h).symm⟩)))
            · rw [if_neg d2] at h; cases h
        | [true], h =>
          simp only at h
          by_cases d1 : q.1 = 15
          · rw [if_pos d1] at h
            exact Or.inr (Or.inr (Or.inr (Or.inl ⟨[], rfl, d1, (Option.some.inj h).symm⟩)))
          · rw [if_neg d1] at h; cases h
        | true :: false :: t, h =>
          simp only at h
          by_cases d1 : q.1 = 15
          · rw [if_pos d1] at h
            exact Or.inr (Or.inr (Or.inr (Or.inl ⟨false :: t, rfl, d1, (Option.some.inj h).symm⟩)))
          · rw [if_neg d1] at h; cases h
        | [], h => simp at h
theorem wr_if {c : Prop} [Decidable c] : wr (if c then (1 : Int) else 0) = if c then 1 else 0 := by split <;> exact wr_of (by decide) (by decide)
theorem wr_bothV (s a b : Int) : wr (bothV s a b) = bothV s a b := by
  unfold bothV
  split
  · exact wr_wr _
  split
  · exact wr_wr _
  split
  · exact wr_wr _
  split
  · exact wr_if
  split
  · exact wr_if
  split
  · exact wr_if
  split
  · exact wr_and _ _
  · exact wr_or _ _
theorem bit01 : ∀ s : Int, (s = 16 ∨ s = 17) → ∀ a b : Int, (a = 0 ∨ a = 1) → (b = 0 ∨ b = 1) → bothV s a b = 0 ∨ bothV s a b = 1 := by
  intro s hs a b ha hb
  rcases hs with rfl | rfl <;> rcases ha with rfl | rfl <;> rcases hb with rfl | rfl <;> decide
theorem ev_typ {A : Nat → Int} (hA : ∀ k, wr (A k) = A k) {q : Int × Int} {ty ty' : List Bool} {st : List Int} (hq : q.1 = 0 → 0 ≤ q.2 ∧ q.2 ≤ 99999) (h : typI q ty = some ty') (hv : TV ty st) : TV ty' (evI A q st) := by
  obtain ⟨-, h⟩ := typI_c h
  unfold evI
  rcases h with ⟨h1, h2, rfl⟩ | ⟨t, rfl, h1, rfl⟩ | ⟨t, rfl, h1, h2, rfl⟩ | ⟨t, rfl, h1, rfl⟩ | ⟨t, rfl, h1, rfl⟩ | ⟨t, rfl, h1, rfl⟩
  · by_cases c : q.1 = 0
    · rw [if_pos c]
      have := hq c
      exact ⟨(fun z => by cases z), wr_of (by omega) (by omega), hv⟩
    · rw [if_neg c, if_pos h2]
      exact ⟨(fun z => by cases z), hA _, hv⟩
  · obtain ⟨b, vs, rfl, -, hb, hv⟩ := TV_c hv
    obtain ⟨a, vs, rfl, -, ha, hv⟩ := TV_c hv
    rw [if_neg (by omega), if_neg (by omega), if_neg (by omega), if_neg (by omega)]
    exact ⟨(fun z => by cases z), wr_bothV _ _ _, hv⟩
  · obtain ⟨b, vs, rfl, -, hb, hv⟩ := TV_c hv
    rw [if_neg (by omega), if_neg (by omega), if_pos h1]
    exact ⟨(fun z => by cases z), wr_dv _ _, hv⟩
  · obtain ⟨b, vs, rfl, -, hb, hv⟩ := TV_c hv
    obtain ⟨a, vs, rfl, -, ha, hv⟩ := TV_c hv
    rw [if_neg (by omega), if_neg (by omega), if_neg (by omega), if_neg (by omega)]
    refine ⟨fun _ => ?_, wr_bothV _ _ _, hv⟩
    unfold bothV
    rcases h1 with h1 | h1 | h1 <;> rw [h1] <;> simp only [show ¬ (12 : Int) = 8 by decide, show ¬ (12 : Int) = 9 by decide, show ¬ (12 : Int) = 10 by decide, show ¬ (13 : Int) = 8 by decide, show ¬ (13 : Int) = 9 by decide, show ¬ (13 : Int) = 10 by decide, show ¬ (13 : Int) = 12 by decide, show ¬ (14 : Int) = 8 by decide, show ¬ (14 : Int) = 9 by decide, show ¬ (14 : Int) = 10 by decide, show ¬ (14 : Int) = 12 by decide, show ¬ (14 : Int) = 13 by decide, if_true, if_false] <;> split <;> simp
  · obtain ⟨b, vs, rfl, hb1, hb, hv⟩ := TV_c hv
    rw [if_neg (by omega), if_neg (by omega), if_neg (by omega), if_pos h1]
    have := hb1 rfl
    refine ⟨fun _ => ?_, wr_wr _, hv⟩
    rcases this with rfl | rfl <;> decide
  · obtain ⟨b, vs, rfl, hb1, hb, hv⟩ := TV_c hv
    obtain ⟨a, vs, rfl, ha1, ha, hv⟩ := TV_c hv
    rw [if_neg (by omega), if_neg (by omega), if_neg (by omega), if_neg (by omega)]
    exact ⟨fun _ => bit01 _ h1 _ _ (ha1 rfl) (hb1 rfl), wr_bothV _ _ _, hv⟩
/-- a stack laid in cells -/
def Cs (G : GS) (c : Nat) : List Int → Prop
  | [] => True
  | v :: t => gi G c t.length = v ∧ Cs G c t
theorem Cs_fr {G G' : GS} {c : Nat} : ∀ st : List Int, (∀ i, i < st.length → gi G' c i = gi G c i) → Cs G c st → Cs G' c st
  | [], _, _ => trivial
  | v :: t, h, hc => ⟨by rw [h t.length (by rw [List.length_cons]; omega)]; exact hc.1, Cs_fr t (fun i hi => h i (by rw [List.length_cons]; omega)) hc.2⟩
def StkC (G : GS) (st : List Int) : Prop := gi G 35 2 = st.length ∧ Cs G 37 st
def Rf (G G' : GS) : Prop := (∀ c k, ¬ (c = 37 ∨ (c = 35 ∧ k = 2)) → gi G' c k = gi G c k) ∧ ∀ c k, gp G' c k = gp G c k
theorem Rf.rf (G : GS) : Rf G G := ⟨fun _ _ _ => rfl, fun _ _ => rfl⟩
theorem Rf.trans {A B C : GS} (h1 : Rf A B) (h2 : Rf B C) : Rf A C := ⟨fun c k z => (h2.1 c k z).trans (h1.1 c k z), fun c k => (h2.2 c k).trans (h1.2 c k)⟩
theorem push_eq {G : GS} {st : List Int} {v : Int} (hs : StkC G st) (hl : st.length < 64) (hv : wr v = v) : ∃ G', f_Reckoner_push G v = some G' ∧ StkC G' (v :: st) ∧ Rf G G' := by
  obtain ⟨h1, h2⟩ := hs
  have hw : wr ((st.length : Int) + 1) = (st.length : Int) + 1 := wr_of (by omega) (by omega)
  have e2 : gi (si G 37 st.length v) 35 2 = st.length := by rw [gi_ne (by decide)]; exact h1
  refine ⟨si (si G 37 st.length v) 35 2 ((st.length : Int) + 1), ?_, ⟨?_, ?_, ?_⟩, ⟨fun c k z => by rw [gi_si, if_neg (by omega), gi_si, if_neg (by omega)], fun _ _ => rfl⟩⟩
  · simp only [f_Reckoner_push, h1, if_neg (show ¬ (64 : Int) ≤ st.length by omega), gd, if_pos (show (0 : Int) ≤ (st.length : Int) ∧ (st.length : Int) < 64 by omega), wG, Int.toNat_natCast, e2]
  · rw [gi_si, if_pos ⟨rfl, rfl⟩, hw, List.length_cons]; omega
  · rw [gi_ne (by decide), gi_si, if_pos ⟨rfl, rfl⟩]; exact hv
  · exact Cs_fr st (fun i hi => by rw [gi_ne (by decide), gi_si, if_neg (by omega)]) h2
theorem pop_eq {G : GS} {t : List Int} {v : Int} (hs : StkC G (v :: t)) (hl : t.length < 64) : ∃ G', f_Reckoner_pop G = some (v, G') ∧ StkC G' t ∧ Rf G G' := by
  obtain ⟨h1, h2, h3⟩ := hs
  rw [List.length_cons] at h1
  have hw : wr (t.length : Int) = t.length := wr_of (by omega) (by omega)
  have e0 : gi G 35 2 - 1 = (t.length : Int) := by omega
  have e2 : gi (si G 35 2 (t.length : Int)) 35 2 = t.length := by rw [gi_si, if_pos ⟨rfl, rfl⟩]; exact hw
  have e3 : gi (si G 35 2 (t.length : Int)) 37 t.length = v := by rw [gi_ne (by decide)]; exact h2
  refine ⟨si G 35 2 (t.length : Int), ?_, ⟨e2, Cs_fr t (fun i _ => by rw [gi_ne (by decide)]) h3⟩, ⟨fun c k z => by rw [gi_si, if_neg (by omega)], fun _ _ => rfl⟩⟩
  simp only [f_Reckoner_pop, if_pos (show 0 < gi G 35 2 by omega), e0, wG, e2, gd, if_pos (show (0 : Int) ≤ (t.length : Int) ∧ (t.length : Int) < 64 by omega), Int.toNat_natCast, e3]
def itemC (G : GS) (x : Int) : Option GS := if x < 0 then f_Reckoner_work G (wr (-x)) else f_Reckoner_push G x
def runC : GS → List Int → Option GS
  | G, [] => some G
  | G, x :: l => (itemC G x).bind fun G' => runC G' l
theorem runC_app (a b : List Int) : ∀ G : GS, runC G (a ++ b) = (runC G a).bind fun G' => runC G' b := by
  induction a with
  | nil => intro G; rfl
  | cons x t ih =>
    intro G
    show (itemC G x).bind (fun G' => runC G' (t ++ b)) = ((itemC G x).bind fun G' => runC G' t).bind fun G' => runC G' b
    cases itemC G x with
    | none => rfl
    | some G' => exact ih G'
def AskC (G : GS) (A : Nat → Int) : Prop := ∀ k, k < 7 → gi G 36 k = A (k + 1)
theorem AskC_fr {G G' : GS} {A : Nat → Int} (h : Rf G G') (hA : AskC G A) : AskC G' A := fun k hk => by rw [h.1 36 k (by omega)]; exact hA k hk
theorem two_C {G : GS} {k s b a : Int} {t : List Int} (hs : StkC G (b :: a :: t)) (hl : t.length ≤ 61) (hk : (k = 43 ∧ s = 8) ∨ (k = 45 ∧ s = 9) ∨ (k = 42 ∧ s = 10) ∨ (k = 60 ∧ s = 12) ∨ (k = 61 ∧ s = 13) ∨ (k = 62 ∧ s = 14) ∨ (k = 128 ∧ s = 16) ∨ (k = 127 ∧ s = 17)) : ∃ G', itemC G (-k) = some G' ∧ StkC G' (bothV s a b :: t) ∧ Rf G G' := by
  obtain ⟨G1, p1, p2, p3⟩ := pop_eq hs (by rw [List.length_cons]; omega)
  obtain ⟨G2, q1, q2, q3⟩ := pop_eq p2 (by omega)
  obtain ⟨G3, r1, r2, r3⟩ := push_eq (v := bothV s a b) q2 (by omega) (wr_bothV _ _ _)
  have hj : f_Reckoner_joined G2 k a b = some (bothV s a b) := by
    unfold f_Reckoner_joined bothV
    rcases hk with ⟨rfl, rfl⟩ | ⟨rfl, rfl⟩ | ⟨rfl, rfl⟩ | ⟨rfl, rfl⟩ | ⟨rfl, rfl⟩ | ⟨rfl, rfl⟩ | ⟨rfl, rfl⟩ | ⟨rfl, rfl⟩
    · rfl
    · rfl
    · rfl
    · show (if b ≤ a then some 0 else some 1) = some (if a < b then 1 else 0)
      by_cases z : b ≤ a
      · rw [if_pos z, if_neg (by omega)]
      · rw [if_neg z, if_pos (by omega)]
    · show (if a = b then some 1 else some 0) = some (if a = b then 1 else 0)
      split <;> rfl
    · show (if a ≤ b then some 0 else some 1) = some (if b < a then 1 else 0)
      by_cases z : a ≤ b
      · rw [if_pos z, if_neg (by omega)]
      · rw [if_neg z, if_pos (by omega)]
    · rfl
    · rfl
  refine ⟨G3, ?_, r2, p3.trans (q3.trans r3)⟩
  have hn : wr (- -k) = k := by rw [Int.neg_neg]; exact wr_of (by omega) (by omega)
  have h28 : f_Reckoner_work_L28 G k = some G3 := by
    simp only [f_Reckoner_work_L28, if_neg (show ¬ k = 129 by omega), if_neg (show ¬ k = 120 by omega), if_neg (show ¬ k = 126 by omega), if_neg (show ¬ k = 114 by omega), p1, Option.bind_some, q1, hj, r1]
  unfold itemC
  rw [if_pos (show -k < 0 by omega), hn]
  unfold f_Reckoner_work
  by_cases z : k < 100
  · rw [if_pos z]; exact h28
  · rw [if_neg z, if_pos (show 107 ≤ k by omega)]; exact h28
theorem run_C {A : Nat → Int} (hAw : ∀ k, wr (A k) = A k) {G : GS} {q : Int × Int} {ty ty' : List Bool} {st base : List Int} (hq : q.1 = 0 → 0 ≤ q.2 ∧ q.2 ≤ 99999) (ht : typI q ty = some ty') (hv : TV ty st) (hA : AskC G A) (hs : StkC G (st ++ base)) (hb : base.length ≤ 1) : ∃ G', runC G (clsI q) = some G' ∧ StkC G' (evI A q st ++ base) ∧ Rf G G' := by
  have hlen := TV_len _ _ hv
  obtain ⟨hl, h⟩ := typI_c ht
  unfold clsI evI
  rcases h with ⟨h1, h2, rfl⟩ | ⟨t, rfl, h1, rfl⟩ | ⟨t, rfl, h1, h2, rfl⟩ | ⟨t, rfl, h1, rfl⟩ | ⟨t, rfl, h1, rfl⟩ | ⟨t, rfl, h1, rfl⟩
  · by_cases c : q.1 = 0
    · rw [if_pos c, if_pos c]
      have := hq c
      obtain ⟨G', r1, r2, r3⟩ := push_eq (v := q.2) hs (by rw [List.length_append]; omega) (wr_of (by omega) (by omega))
      refine ⟨G', ?_, r2, r3⟩
      simp only [runC, itemC, if_neg (show ¬ q.2 < 0 by omega), r1, Option.bind_some]
    · rw [if_neg c, if_pos h2, if_neg c, if_pos h2]
      have hk : q.1.toNat - 1 < 7 := by omega
      have hA' := hA (q.1.toNat - 1) hk
      rw [show q.1.toNat - 1 + 1 = q.1.toNat by omega] at hA'
      obtain ⟨G', r1, r2, r3⟩ := push_eq (v := A q.1.toNat) hs (by rw [List.length_append]; omega) (hAw _)
      refine ⟨G', ?_, r2, r3⟩
      have hn : wr (- -(q.1 + 99)) = q.1 + 99 := by rw [Int.neg_neg]; exact wr_of (by omega) (by omega)
      have hn2 : wr (q.1 + 99 - 100) = q.1 - 1 := by rw [wr_of (by omega) (by omega)]; omega
      simp only [runC, itemC, if_pos (show -(q.1 + 99) < 0 by omega), hn, f_Reckoner_work, if_neg (show ¬ q.1 + 99 < 100 by omega), if_neg (show ¬ (107 : Int) ≤ q.1 + 99 by omega), hn2, gd, if_pos (show 0 ≤ q.1 - 1 ∧ q.1 - 1 < 7 by omega), show (q.1 - 1).toNat = q.1.toNat - 1 by omega, hA', r1, Option.bind_some]
  · obtain ⟨b, vs, rfl, -, -, hv⟩ := TV_c hv
    obtain ⟨a, vs, rfl, -, -, hv⟩ := TV_c hv
    rw [List.length_cons, List.length_cons] at hlen
    rw [List.length_cons, List.length_cons] at hl
    have key := fun k hk => two_C (G := G) (k := k) (s := q.1) (b := b) (a := a) (t := vs ++ base) hs (by rw [List.length_append]; rw [List.length_cons, List.length_cons] at hlen; omega) hk
    rcases h1 with h1 | h1 | h1
    · obtain ⟨G', r1, r2, r3⟩ := key 43 (by omega)
      refine ⟨G', ?_, ?_, r3⟩
      · rw [if_neg (by omega), if_neg (by omega), if_pos h1]
        simp only [runC, r1, Option.bind_some]
      · rw [if_neg (by omega), if_neg (by omega), if_neg (by omega), if_neg (by omega)]; exact r2
    · obtain ⟨G', r1, r2, r3⟩ := key 45 (by omega)
      refine ⟨G', ?_, ?_, r3⟩
      · rw [if_neg (by omega), if_neg (by omega), if_neg (by omega), if_pos h1]
        simp only [runC, r1, Option.bind_some]
      · rw [if_neg (by omega), if_neg (by omega), if_neg (by omega), if_neg (by omega)]; exact r2
    · obtain ⟨G', r1, r2, r3⟩ := key 42 (by omega)
      refine ⟨G', ?_, ?_, r3⟩
      · rw [if_neg (by omega), if_neg (by omega), if_neg (by omega), if_neg (by omega), if_pos h1]
        simp only [runC, r1, Option.bind_some]
      · rw [if_neg (by omega), if_neg (by omega), if_neg (by omega), if_neg (by omega)]; exact r2
  · obtain ⟨b, vs, rfl, -, hbw, hv⟩ := TV_c hv
    rw [List.length_cons] at hlen hl
    rw [List.length_cons] at hlen
    obtain ⟨G1, p1, p2, p3⟩ := push_eq (v := q.2) hs (by rw [List.length_append, List.length_cons]; omega) (wr_of (by omega) (by omega))
    obtain ⟨G2, q1, q2, q3⟩ := pop_eq p2 (by rw [List.length_append, List.length_cons]; omega)
    obtain ⟨G3, s1, s2, s3⟩ := pop_eq (v := b) (t := vs ++ base) q2 (by rw [List.length_append]; omega)
    obtain ⟨G4, t1, t2, t3⟩ := push_eq (v := dv b q.2) s2 (by rw [List.length_append]; omega) (wr_dv _ _)
    refine ⟨G4, ?_, ?_, p3.trans (q3.trans (s3.trans t3))⟩
    · rw [if_neg (by omega), if_neg (by omega), if_neg (by omega), if_neg (by omega), if_neg (by omega), if_pos h1]
      have hj : f_Reckoner_joined G3 47 b q.2 = some (dv b q.2) := by
        simp only [f_Reckoner_joined, show ¬ (47 : Int) = 42 by decide, show ¬ (47 : Int) = 43 by decide, show ¬ (47 : Int) = 45 by decide, if_false, if_true, if_neg (show ¬ q.2 = 0 by omega), gd, if_pos (show ¬ q.2 = 0 by omega)]
      have hn : wr (- -47) = 47 := wr_of (by decide) (by decide)
      simp only [runC, itemC, if_neg (show ¬ q.2 < 0 by omega), p1, Option.bind_some, show (-47 : Int) < 0 by decide, if_true, hn, f_Reckoner_work, show (47 : Int) < 100 by decide, f_Reckoner_work_L28, show ¬ (47 : Int) = 129 by decide, show ¬ (47 : Int) = 120 by decide, show ¬ (47 : Int) = 126 by decide, show ¬ (47 : Int) = 114 by decide, if_false, q1, s1, hj, t1]
    · rw [if_neg (by omega), if_neg (by omega), if_pos h1]; exact t2
  · obtain ⟨b, vs, rfl, -, -, hv⟩ := TV_c hv
    obtain ⟨a, vs, rfl, -, -, hv⟩ := TV_c hv
    rw [List.length_cons, List.length_cons] at hlen
    rw [List.length_cons, List.length_cons] at hl
    have key := fun k hk => two_C (G := G) (k := k) (s := q.1) (b := b) (a := a) (t := vs ++ base) hs (by rw [List.length_append]; rw [List.length_cons, List.length_cons] at hlen; omega) hk
    rcases h1 with h1 | h1 | h1
    · obtain ⟨G', r1, r2, r3⟩ := key 60 (by omega)
      refine ⟨G', ?_, ?_, r3⟩
      · rw [if_neg (by omega), if_neg (by omega), if_neg (by omega), if_neg (by omega), if_neg (by omega), if_neg (by omega), if_pos h1]
        simp only [runC, r1, Option.bind_some]
      · rw [if_neg (by omega), if_neg (by omega), if_neg (by omega), if_neg (by omega)]; exact r2
    · obtain ⟨G', r1, r2, r3⟩ := key 61 (by omega)
      refine ⟨G', ?_, ?_, r3⟩
      · rw [if_neg (by omega), if_neg (by omega), if_neg (by omega), if_neg (by omega), if_neg (by omega), if_neg (by omega), if_neg (by omega), if_pos h1]
        simp only [runC, r1, Option.bind_some]
      · rw [if_neg (by omega), if_neg (by omega), if_neg (by omega), if_neg (by omega)]; exact r2
    · obtain ⟨G', r1, r2, r3⟩ := key 62 (by omega)
      refine ⟨G', ?_, ?_, r3⟩
      · rw [if_neg (by omega), if_neg (by omega), if_neg (by omega), if_neg (by omega), if_neg (by omega), if_neg (by omega), if_neg (by omega), if_neg (by omega), if_pos h1]
        simp only [runC, r1, Option.bind_some]
      · rw [if_neg (by omega), if_neg (by omega), if_neg (by omega), if_neg (by omega)]; exact r2
  · obtain ⟨b, vs, rfl, -, hbw, hv⟩ := TV_c hv
    rw [List.length_cons] at hlen hl
    rw [List.length_cons] at hlen
    obtain ⟨G1, p1, p2, p3⟩ := pop_eq (v := b) (t := vs ++ base) hs (by rw [List.length_append]; omega)
    obtain ⟨G2, q1, q2, q3⟩ := push_eq (v := wr (1 - b)) p2 (by rw [List.length_append]; omega) (wr_wr _)
    refine ⟨G2, ?_, ?_, p3.trans q3⟩
    · rw [if_neg (by omega), if_neg (by omega), if_neg (by omega), if_neg (by omega), if_neg (by omega), if_neg (by omega), if_neg (by omega), if_neg (by omega), if_neg (by omega), if_pos h1]
      have hn : wr (- -129) = 129 := wr_of (by decide) (by decide)
      simp only [runC, itemC, show (-129 : Int) < 0 by decide, if_true, hn, f_Reckoner_work, show ¬ (129 : Int) < 100 by decide, show (107 : Int) ≤ 129 by decide, if_false, f_Reckoner_work_L28, p1, Option.bind_some, q1]
    · rw [if_neg (by omega), if_neg (by omega), if_neg (by omega), if_pos h1]; exact q2
  · obtain ⟨b, vs, rfl, -, -, hv⟩ := TV_c hv
    obtain ⟨a, vs, rfl, -, -, hv⟩ := TV_c hv
    rw [List.length_cons, List.length_cons] at hlen
    rw [List.length_cons, List.length_cons] at hl
    have key := fun k hk => two_C (G := G) (k := k) (s := q.1) (b := b) (a := a) (t := vs ++ base) hs (by rw [List.length_append]; rw [List.length_cons, List.length_cons] at hlen; omega) hk
    rcases h1 with h1 | h1
    · obtain ⟨G', r1, r2, r3⟩ := key 128 (by omega)
      refine ⟨G', ?_, ?_, r3⟩
      · rw [if_neg (by omega), if_neg (by omega), if_neg (by omega), if_neg (by omega), if_neg (by omega), if_neg (by omega), if_neg (by omega), if_neg (by omega), if_neg (by omega), if_neg (by omega), if_pos h1]
        simp only [runC, r1, Option.bind_some]
      · rw [if_neg (by omega), if_neg (by omega), if_neg (by omega), if_neg (by omega)]; exact r2
    · obtain ⟨G', r1, r2, r3⟩ := key 127 (by omega)
      refine ⟨G', ?_, ?_, r3⟩
      · rw [if_neg (by omega), if_neg (by omega), if_neg (by omega), if_neg (by omega), if_neg (by omega), if_neg (by omega), if_neg (by omega), if_neg (by omega), if_neg (by omega), if_neg (by omega), if_neg (by omega)]
        simp only [runC, r1, Option.bind_some]
      · rw [if_neg (by omega), if_neg (by omega), if_neg (by omega), if_neg (by omega)]; exact r2
def okV (f : Fm) : Prop := ∀ q ∈ f, q.1 = 0 → 0 ≤ q.2 ∧ q.2 ≤ 99999
theorem typF_c (q : Int × Int) (f : Fm) (ty : List Bool) : typF (q :: f) ty = (typI q ty).bind fun t => typF f t := by
  unfold typF
  rw [List.foldl_cons]
  show f.foldl _ ((some ty).bind (typI q)) = _
  rw [Option.bind_some]
  cases h : typI q ty with
  | none =>
    show f.foldl (fun a q => a.bind (typI q)) none = none
    clear h
    induction f with
    | nil => rfl
    | cons x t ih => exact ih
  | some t => rfl
theorem runF_C {A : Nat → Int} (hAw : ∀ k, wr (A k) = A k) {base : List Int} (hb : base.length ≤ 1) : ∀ (f : Fm) (G : GS) (ty ty' : List Bool) (st : List Int), okV f → typF f ty = some ty' → TV ty st → AskC G A → StkC G (st ++ base) → ∃ G', runC G (clsF f) = some G' ∧ StkC G' (evF A f st ++ base) ∧ Rf G G' ∧ TV ty' (evF A f st) := by
  intro f
  induction f with
  | nil =>
    intro G ty ty' st _ ht hv _ hs
    have : ty = ty' := Option.some.inj ht
    subst this
    exact ⟨G, rfl, hs, Rf.rf G, hv⟩
  | cons q f ih =>
    intro G ty ty' st hok ht hv hA hs
    rw [typF_c] at ht
    cases h : typI q ty with
    | none => rw [h] at ht; cases ht
    | some t =>
      rw [h, Option.bind_some] at ht
      have hq := hok q List.mem_cons_self
      obtain ⟨G1, r1, r2, r3⟩ := run_C hAw hq h hv hA hs hb
      have hv1 := ev_typ hAw hq h hv
      obtain ⟨G2, s1, s2, s3, s4⟩ := ih G1 t ty' (evI A q st) (fun x hx => hok x (List.mem_cons_of_mem _ hx)) ht hv1 (AskC_fr r3 hA) r2
      refine ⟨G2, ?_, s2, r3.trans s3, s4⟩
      rw [show clsF (q :: f) = clsI q ++ clsF f from rfl, runC_app, r1, Option.bind_some]
      exact s1
