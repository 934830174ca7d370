/-! what a formula may ask; the lines of a law, one by one in the reference -/
def acN (g : Nat → Int) : Nat → Nat
  | 0 => 0
  | a + 1 => acN g a + if 0 < g a then 1 else 0
theorem acN_le (g : Nat → Int) : ∀ a, acN g a ≤ a
  | 0 => Nat.le_refl _
  | a + 1 => by have := acN_le g a; unfold acN; split <;> omega
theorem acC_L {G : GS} {l : Nat} (hl : l < 12) : ∀ (n i : Nat), i ≤ 6 → 6 - i < n → f_Lands_acresOf_L4 G n l (acN (gLa G l) i : Int) i = some (acN (gLa G l) 6 : Int) := by
  intro n
  induction n with
  | zero => intro i q1 q2; omega
  | succ n ih =>
    intro i q1 q2
    by_cases c : (6 : Int) ≤ i
    · have : i = 6 := by omega
      subst this
      simp only [f_Lands_acresOf_L4, if_pos c]
    · have hw : wr ((i : Int) + 1) = ((i + 1 : Nat) : Int) := by rw [wr_of (by omega) (by omega)]; omega
      have hw1 : wr ((l : Int) * 6 + i) = ((6 * l + i : Nat) : Int) := by rw [wr_of (by omega) (by omega)]; omega
      have hle := acN_le (gLa G l) i
      have ih' := ih (i + 1) (by omega) (by omega)
      have hg : gi G 13 (6 * l + i) = gLa G l i := rfl
      rw [acN] at ih'
      rw [f_Lands_acresOf_L4, if_neg c, hw1, gd, if_pos (by omega), Int.toNat_natCast, hg]
      generalize acN (gLa G l) i = k at *
      have hk : wr ((k : Int) + 1) = ((k + 1 : Nat) : Int) := by rw [wr_of (by omega) (by omega)]; omega
      by_cases d : gLa G l i ≤ 0
      · rw [if_neg (by omega), Nat.add_zero] at ih'
        rw [if_pos d, f_Lands_acresOf_L27, hw]
        exact ih'
      · rw [if_pos (by omega)] at ih'
        rw [if_neg d, f_Lands_acresOf_L27, hk, hw]
        exact ih'
theorem acC {G : GS} {l : Nat} (hl : l < 12) : f_Lands_acresOf G l = some (acN (gLa G l) 6 : Int) := acC_L hl FU 0 (by omega) (by unfold FU; omega)
def AV (G0 : GS) (F : Fam) (p l : Nat) (o : Option Nat) : Nat → Int := fun k =>
  if k = 1 then W6 (gLa G0 l) 63 else if k = 2 then (acN (gLa G0 l) 6 : Int) else if k = 3 then gi G0 10 l else if k = 4 then gi G0 11 l
  else if k = 5 then (match o with
    | none => 0
    | some q => if gi G0 7 p ≤ gi G0 6 q then 0 else dv (gi G0 7 p - gi G0 6 q) 360)
  else if k = 6 then (fb_ct (fun i => decide (0 < (ev F i 0 (tps F p)).1)) F.2.2.2 : Int)
  else if k = 7 then (match o with
    | none => 0
    | some q => wr (ldv (100 * ((ev F q 0 (tps F p)).1 : Int)) ((ev F q 0 (tps F p)).2 : Int)))
  else 0
theorem AV_wr {G0 : GS} {F : Fam} {p l : Nat} {o : Option Nat} (hL : InvL G0) (hN : F.2.2.2 ≤ 32) : ∀ k, wr (AV G0 F p l o k) = AV G0 F p l o k := by
  intro k
  unfold AV
  have wb := W6_b (Acr_of hL l) 63
  have ab := acN_le (gLa G0 l) 6
  have cb := fb_ct_le (fun i => decide (0 < (ev F i 0 (tps F p)).1)) F.2.2.2
  split
  · exact wr_of (by omega) (by omega)
  split
  · exact wr_of (by omega) (by omega)
  split
  · exact wr_gi _ _ _
  split
  · exact wr_gi _ _ _
  split
  · cases o with
    | none => exact wr_zero
    | some q => dsimp only; split; exact wr_zero; exact wr_dv _ _
  split
  · exact wr_of (by omega) (by omega)
  split
  · cases o with
    | none => exact wr_zero
    | some q => exact wr_wr _
  · exact wr_zero
theorem dv_0_360 : dv 0 360 = 0 := by decide
theorem ev_2 {F : Fam} (hF : FOK F) {dead q : Nat} {way : Int} (hd : dead < F.2.2.2) : Gd (ev F q way (tps F dead)) := by
  cases ht : tps F dead with
  | none => exact Gd_01
  | some t => exact (kv_div hF (fun c _ hc => vv_g hF q way hc)).1
theorem askC_eq {G G0 : GS} {F : Fam} {p l : Nat} {o : Option Nat} (hF : FOK F) (hp : p < F.2.2.2) (hL0 : InvL G0) (hP0 : InvP G0) (hpc : (p : Int) < gi G0 1 7) (hl : l < 12) (hi : ∀ c k, ¬ scr c k → gi G c k = gi G0 c k) (hct : fb_ct (tb (gi G 31 32)) 32 = fb_ct (fun i => decide (0 < (ev F i 0 (tps F p)).1)) F.2.2.2) (ho : ∀ q, o = some q → (q : Int) < gi G0 1 7 ∧ gl G 33 32 = ((ev F q 0 (tps F p)).1 : Int) ∧ gl G 34 32 = ((ev F q 0 (tps F p)).2 : Int)) : ∃ G', f_Hall_ask G p l (oI o) = some G' ∧ AskC G' (AV G0 F p l o) ∧ (∀ c k, c ≠ 36 → gi G' c k = gi G c k) ∧ (∀ c k, gp G' c k = gp G c k) := by
  have hN := hF.1
  have hgl : gLa G l = gLa G0 l := by funext a; exact hi 13 _ (by unfold scr; omega)
  have hL : InvL G := InvL_fr (by rw [hi 1 7 (by unfold scr; omega)]; exact Int.le_refl _) (hi 9 5 (by unfold scr; omega)) (fun c k _ => hi c k (by unfold scr; omega)) hL0
  have wb := W6_b (Acr_of hL0 l) 63
  have ab := acN_le (gLa G0 l) 6
  have cb := fb_ct_le (fun i => decide (0 < (ev F i 0 (tps F p)).1)) F.2.2.2
  -- one store after the other
  have e1 : f_Lands_worthOf G l = some (W6 (gLa G0 l) 63) := by rw [worth_C hL hl, hgl]
  have ac : ∀ G1 : GS, (∀ c k, c ≠ 36 → gi G1 c k = gi G c k) → f_Lands_acresOf G1 l = some (acN (gLa G0 l) 6 : Int) := fun G1 h => by
    rw [acC hl]
    have : gLa G1 l = gLa G0 l := by
      rw [← hgl]; funext a; exact h 13 _ (by decide)
    rw [this]
  obtain ⟨G1, hG1⟩ : ∃ G1, G1 = si G 36 0 (W6 (gLa G0 l) 63) := ⟨_, rfl⟩
  have f1 : ∀ c k, c ≠ 36 → gi G1 c k = gi G c k := fun c k z => by rw [hG1, gi_ne z]
  obtain ⟨G7, hG7⟩ : ∃ G7, G7 = si (si (si (si (si (si G1 36 1 (acN (gLa G0 l) 6 : Int)) 36 2 (gi G0 10 l)) 36 3 (gi G0 11 l)) 36 4 0) 36 5 (fb_ct (fun i => decide (0 < (ev F i 0 (tps F p)).1)) F.2.2.2 : Int)) 36 6 0 := ⟨_, rfl⟩
  have f7 : ∀ c k, c ≠ 36 → gi G7 c k = gi G c k := fun c k z => by rw [hG7, gi_ne z, gi_ne z, gi_ne z, gi_ne z, gi_ne z, gi_ne z]; exact f1 c k z
  have l7 : ∀ c k, gl G7 c k = gl G c k := fun c k => by rw [hG7, hG1]; rfl
  have p7 : ∀ c k, gp G7 c k = gp G c k := fun c k => by rw [hG7, hG1]; rfl
  have v0 : gi G7 36 0 = W6 (gLa G0 l) 63 := by
    rw [hG7]
    rw [gi_si, if_neg (by omega), gi_si, if_neg (by omega), gi_si, if_neg (by omega), gi_si, if_neg (by omega), gi_si, if_neg (by omega), gi_si, if_neg (by omega), hG1, gi_si, if_pos ⟨rfl, rfl⟩]
    exact wr_of (by omega) (by omega)
  have v1 : gi G7 36 1 = (acN (gLa G0 l) 6 : Int) := by
    rw [hG7]
    rw [gi_si, if_neg (by omega), gi_si, if_neg (by omega), gi_si, if_neg (by omega), gi_si, if_neg (by omega), gi_si, if_neg (by omega), gi_si, if_pos ⟨rfl, rfl⟩]
    exact wr_of (by omega) (by omega)
  have v2 : gi G7 36 2 = gi G0 10 l := by
    rw [hG7]
    rw [gi_si, if_neg (by omega), gi_si, if_neg (by omega), gi_si, if_neg (by omega), gi_si, if_neg (by omega), gi_si, if_pos ⟨rfl, rfl⟩]
    exact wr_gi _ _ _
  have v3 : gi G7 36 3 = gi G0 11 l := by
    rw [hG7]
    rw [gi_si, if_neg (by omega), gi_si, if_neg (by omega), gi_si, if_neg (by omega), gi_si, if_pos ⟨rfl, rfl⟩]
    exact wr_gi _ _ _
  have v4 : gi G7 36 4 = 0 := by
    rw [hG7]
    rw [gi_si, if_neg (by omega), gi_si, if_neg (by omega), gi_si, if_pos ⟨rfl, rfl⟩]
    exact wr_zero
  have v5 : gi G7 36 5 = (fb_ct (fun i => decide (0 < (ev F i 0 (tps F p)).1)) F.2.2.2 : Int) := by
    rw [hG7]
    rw [gi_si, if_neg (by omega), gi_si, if_pos ⟨rfl, rfl⟩]
    exact wr_of (by omega) (by omega)
  have v6 : gi G7 36 6 = 0 := by
    rw [hG7]
    rw [gi_si, if_pos ⟨rfl, rfl⟩]
    exact wr_zero
  have main : f_Hall_ask G p l (oI o) = (if oI o = -1 then some G7 else gd (0 ≤ (p : Int) ∧ (p : Int) < 32) <| gd (0 ≤ oI o ∧ oI o < 32) <| wG (si G7 36 4 (dv (max 0 (wr ((gi G7 7 (p : Int).toNat) - (gi G7 6 (oI o).toNat)))) 360)) fun G8 => (f_Descent_partAbove G8).bind fun q5 => (f_Descent_partBelow G8).bind fun q6 => gd (¬ max 1 q6 = 0) <| wG (si G8 36 6 (ldv (100 * q5) (max 1 q6))) fun G9 => some G9) := by
    have b10 : ∀ v : Int, gi (si G1 36 1 v) 10 l = gi G0 10 l := fun v => by rw [gi_ne (by decide), f1 10 l (by decide), hi 10 l (by unfold scr; omega)]
    have b11 : ∀ v w : Int, gi (si (si G1 36 1 v) 36 2 w) 11 l = gi G0 11 l := fun v w => by rw [gi_ne (by decide), gi_ne (by decide), f1 11 l (by decide), hi 11 l (by unfold scr; omega)]
    have b31 : ∀ v w x y : Int, gi (si (si (si (si G1 36 1 v) 36 2 w) 36 3 x) 36 4 y) 31 32 = gi G 31 32 := fun v w x y => by rw [gi_ne (by decide), gi_ne (by decide), gi_ne (by decide), gi_ne (by decide)]; exact f1 31 32 (by decide)
    have hgG : gd (0 ≤ (l : Int) ∧ (l : Int) < 12) = (fun A : Option GS => A) := by funext A; rw [gd, if_pos (by omega)]
    unfold f_Hall_ask
    rw [e1, Option.bind_some]
    show (f_Lands_acresOf (si G 36 0 (W6 (gLa G0 l) 63)) l).bind _ = _
    rw [← hG1, ac G1 f1, Option.bind_some]
    simp only [wG, hgG, Int.toNat_natCast, b10, b11, f_Descent_heirSet, Option.bind_some, b31, bitc_all, hct]
    rw [← hG7]
  rw [main]
  cases o with
  | none =>
    refine ⟨G7, if_pos (show oI none = -1 from rfl), ?_, f7, p7⟩
    intro k hk
    have h : k = 0 ∨ k = 1 ∨ k = 2 ∨ k = 3 ∨ k = 4 ∨ k = 5 ∨ k = 6 := by omega
    rcases h with rfl | rfl | rfl | rfl | rfl | rfl | rfl
    · exact v0
    · exact v1
    · exact v2
    · exact v3
    · exact v4
    · exact v5
    · exact v6
  | some q =>
    obtain ⟨q1, q2, q3⟩ := ho q rfl
    have n1 := hP0.2.1
    have k1 := hP0.2.2.2.1
    have pp := hP0.2.2.2.2.1 p hpc
    have pq := hP0.2.2.2.2.1 q q1
    unfold POK at pp pq
    have d7 : gi G7 7 p = gi G0 7 p := by rw [f7 7 p (by decide), hi 7 p (by unfold scr; omega)]
    have d6 : gi G7 6 q = gi G0 6 q := by rw [f7 6 q (by decide), hi 6 q (by unfold scr; omega)]
    have hage : dv (max 0 (wr (gi G0 7 p - gi G0 6 q))) 360 = if gi G0 7 p ≤ gi G0 6 q then 0 else dv (gi G0 7 p - gi G0 6 q) 360 := by
      rw [wr_of (by omega) (by omega)]
      by_cases z : gi G0 7 p ≤ gi G0 6 q
      · rw [if_pos z, show max 0 (gi G0 7 p - gi G0 6 q) = 0 by omega]; exact dv_0_360
      · rw [if_neg z, show max 0 (gi G0 7 p - gi G0 6 q) = gi G0 7 p - gi G0 6 q by omega]
    have hg := ev_2 hF (q := q) (way := 0) hp
    have hmx : max 1 ((ev F q 0 (tps F p)).2 : Int) = ((ev F q 0 (tps F p)).2 : Int) := by have := hg.1.1; omega
    refine ⟨si (si G7 36 4 (if gi G0 7 p ≤ gi G0 6 q then 0 else dv (gi G0 7 p - gi G0 6 q) 360)) 36 6 (ldv (100 * ((ev F q 0 (tps F p)).1 : Int)) ((ev F q 0 (tps F p)).2 : Int)), ?_, ?_, fun c k z => by rw [gi_ne z, gi_ne z]; exact f7 c k z, p7⟩
    · have a1 : ∀ v : Int, gl (si G7 36 4 v) 33 32 = ((ev F q 0 (tps F p)).1 : Int) := fun v => by rw [gl_si, l7]; exact q2
      have a2 : ∀ v : Int, gl (si G7 36 4 v) 34 32 = ((ev F q 0 (tps F p)).2 : Int) := fun v => by rw [gl_si, l7]; exact q3
      show (if (q : Int) = -1 then _ else _) = _
      rw [if_neg (by omega), gd, if_pos (by omega)]
      show gd (0 ≤ (q : Int) ∧ (q : Int) < 32) _ = _
      rw [gd, if_pos (by omega), Int.toNat_natCast]
      rw [show (oI (some q)).toNat = q from rfl, d7, d6, hage]
      unfold wG
      simp only [f_Descent_partAbove, f_Descent_partBelow, Option.bind_some, a1, a2, hmx, gd, wG]
      rw [if_pos (by have := hg.1.1; omega)]
    · intro k hk
      have w5 : wr (if gi G0 7 p ≤ gi G0 6 q then 0 else dv (gi G0 7 p - gi G0 6 q) 360) = if gi G0 7 p ≤ gi G0 6 q then 0 else dv (gi G0 7 p - gi G0 6 q) 360 := by split; exact wr_zero; exact wr_dv _ _
      have h : k = 0 ∨ k = 1 ∨ k = 2 ∨ k = 3 ∨ k = 4 ∨ k = 5 ∨ k = 6 := by omega
      rcases h with rfl | rfl | rfl | rfl | rfl | rfl | rfl
      · rw [gi_si, if_neg (by omega), gi_si, if_neg (by omega)]; exact v0
      · rw [gi_si, if_neg (by omega), gi_si, if_neg (by omega)]; exact v1
      · rw [gi_si, if_neg (by omega), gi_si, if_neg (by omega)]; exact v2
      · rw [gi_si, if_neg (by omega), gi_si, if_neg (by omega)]; exact v3
      · rw [gi_si, if_neg (by omega), gi_si, if_pos ⟨rfl, rfl⟩]; exact w5
      · rw [gi_si, if_neg (by omega), gi_si, if_neg (by omega)]; exact v5
      · rw [gi_si, if_pos ⟨rfl, rfl⟩]; rfl
/-! the lines of a law, where they lie -/
theorem step_app (a b : List (Int × Fm × Fm)) : stepL (a ++ b) = stepL a ++ stepL b := by unfold stepL; rw [List.flatMap_append]
/-- a law's lines in the reference's cells -/
def LawM (G : GS) (r : Nat) (ls : List (Int × Fm × Fm)) : Prop := ls.length ≤ 30 ∧ (stepL ls).length ≤ 810 ∧ (∀ l ∈ ls, okL l) ∧ gi G 104 r = ls.length ∧ (∀ k : Nat, k < ls.length → gi G 105 (30 * r + k) = (ls.getD k (0, [], [])).1 ∧ gi G 107 (30 * r + k) = offL ls k + (ls.getD k (0, [], [])).2.1.length) ∧ (∀ k : Nat, k ≤ ls.length → gi G 106 (31 * r + k) = offL ls k) ∧ ∀ i : Nat, i < (stepL ls).length → gi G 108 (1620 * r + 2 * i) = ((stepL ls).getD i (0, 0)).1 ∧ gi G 108 (1620 * r + 2 * i + 1) = ((stepL ls).getD i (0, 0)).2
theorem LawM_fr {G G' : GS} {r : Nat} {ls : List (Int × Fm × Fm)} (h : Pf G G') (hL : LawM G r ls) : LawM G' r ls := by
  unfold LawM at hL ⊢
  simp only [h.1 104 _ (by decide), h.1 105 _ (by decide), h.1 106 _ (by decide), h.1 107 _ (by decide), h.1 108 _ (by decide)]
  exact hL
theorem line_at {pre post : List (Int × Fm × Fm)} {l : Int × Fm × Fm} : (pre ++ l :: post).getD pre.length (0, [], []) = l ∧ offL (pre ++ l :: post) pre.length = (stepL pre).length ∧ offL (pre ++ l :: post) (pre.length + 1) = (stepL pre).length + l.2.1.length + l.2.2.length ∧ (stepL (pre ++ l :: post)).length = (stepL pre).length + (l.2.1.length + l.2.2.length) + (stepL post).length ∧ ∀ j, j < l.2.1.length + l.2.2.length → (stepL (pre ++ l :: post)).getD ((stepL pre).length + j) (0, 0) = (l.2.1 ++ l.2.2).getD j (0, 0) := by
  have e0 : stepL (l :: post) = (l.2.1 ++ l.2.2) ++ stepL post := rfl
  have e1 : stepL [l] = l.2.1 ++ l.2.2 := by show (l.2.1 ++ l.2.2) ++ [] = _; rw [List.append_nil]
  refine ⟨by simp, ?_, ?_, ?_, fun j hj => ?_⟩
  · unfold offL
    rw [List.take_left']
    rfl
  · unfold offL
    rw [show pre ++ l :: post = (pre ++ [l]) ++ post by simp, List.take_left' (by simp), step_app, e1, List.length_append, List.length_append]
    omega
  · rw [step_app, e0, List.length_append, List.length_append, List.length_append]; omega
  · rw [step_app, e0, List.getD_eq_getElem?_getD, List.getElem?_append_right (by omega), Nat.add_sub_cancel_left, List.getElem?_append_left (by rw [List.length_append]; exact hj), ← List.getD_eq_getElem?_getD]
theorem getD_l {a b : Fm} {j : Nat} (h : j < a.length) : (a ++ b).getD j (0, 0) = a.getD j (0, 0) := by
  rw [List.getD_eq_getElem?_getD, List.getElem?_append_left h, ← List.getD_eq_getElem?_getD]
theorem getD_r {a b : Fm} {j : Nat} : (a ++ b).getD (a.length + j) (0, 0) = b.getD j (0, 0) := by
  rw [List.getD_eq_getElem?_getD, List.getElem?_append_right (by omega), Nat.add_sub_cancel_left, ← List.getD_eq_getElem?_getD]
/-- both formulas of a line, as the reference works them out -/
theorem line_M {A : Nat → Int} (hAw : ∀ k, wr (A k) = A k) {r : Nat} (hr : r < 4) {pre post : List (Int × Fm × Fm)} {l : Int × Fm × Fm} {G : GS} (hL : LawM G r (pre ++ l :: post)) (hA : AskM G A) : (∀ f b, f = l.2.1 → typF f [] = some [b] → ∃ G', f_Model_comesTo G r ((stepL pre).length : Nat) (((stepL pre).length + l.2.1.length : Nat) : Int) = some (evH A l.2.1, G') ∧ Pf G G') ∧ (typF l.2.2 [] = some [true] → ∃ G', f_Model_comesTo G r ((stepL pre).length + l.2.1.length : Nat) (((stepL pre).length + l.2.1.length + l.2.2.length : Nat) : Int) = some (evH A l.2.2, G') ∧ Pf G G' ∧ (evH A l.2.2 = 0 ∨ evH A l.2.2 = 1)) := by
  obtain ⟨h1, h2, h3, h4, h5, h6, h7⟩ := hL
  obtain ⟨a1, a2, a3, a4, a5⟩ := line_at (pre := pre) (post := post) (l := l)
  have ho := h3 l (by simp)
  obtain ⟨o1, o2⟩ := okL_s ho
  refine ⟨fun f b hf ht => ?_, fun ht => ?_⟩
  · subst hf
    obtain ⟨G', r1, r2, -⟩ := comes_M hAw hr (G := G) (i := (stepL pre).length) (e := (((stepL pre).length + l.2.1.length : Nat) : Int)) o1 ht hA rfl (by omega) (fun j hj => by
      have := h7 ((stepL pre).length + j) (by omega)
      rw [a5 j (by omega), getD_l hj] at this
      exact this)
    exact ⟨G', r1, r2⟩
  · obtain ⟨G', r1, r2, r3⟩ := comes_M hAw hr (G := G) (i := (stepL pre).length + l.2.1.length) (e := (((stepL pre).length + l.2.1.length + l.2.2.length : Nat) : Int)) o2 ht hA rfl (by omega) (fun j hj => by
      have := h7 ((stepL pre).length + (l.2.1.length + j)) (by omega)
      rw [a5 _ (by omega), getD_r, ← Nat.add_assoc] at this
      exact this)
    exact ⟨G', r1, r2, r3 rfl⟩
theorem linS_8 {A : Nat → Int} {s : Int × Int} {l : Int × Fm × Fm} (h : ¬ l.1 = 8) : (linS A s l).1 = s.1 := by
  unfold linS
  rw [if_neg h]
  split
  · split <;> rfl
  · rfl
theorem linS_1 {A : Nat → Int} {s : Int × Int} {l : Int × Fm × Fm} (h : s.2 = 1) : (linS A s l).2 = 1 := by
  unfold linS
  split
  · split
    · exact h
    · exact h
  · split
    · split
      · rfl
      · exact h
    · exact h
theorem linS_9 {A : Nat → Int} {s : Int × Int} {l : Int × Fm × Fm} (h : ¬ l.1 = 9) : (linS A s l).2 = s.2 := by
  unfold linS
  rw [if_neg h]
  split
  · split <;> rfl
  · rfl
theorem relM_L {A : Nat → Int} (hAw : ∀ k, wr (A k) = A k) {r : Nat} (hr : r < 4) : ∀ (post pre : List (Int × Fm × Fm)) (n : Nat) (G : GS) (s : Int × Int), post.length < n → LawM G r (pre ++ post) → AskM G A → ∃ G', f_Model_relief_L64 n G r s.1 pre.length = some (max 0 (post.foldl (linS A) s).1, G') ∧ Pf G G' := by
  intro post
  induction post with
  | nil =>
    intro pre n G s hn hL hA
    obtain ⟨n', rfl⟩ : ∃ n', n = n' + 1 := ⟨n - 1, by rw [List.length_nil] at hn; omega⟩
    have h4 := hL.2.2.2.1
    rw [List.append_nil] at h4
    refine ⟨G, ?_, Pf.rf G⟩
    rw [f_Model_relief_L64, gd, if_pos (by omega), Int.toNat_natCast, h4, if_pos (Int.le_refl _)]
    show (if s.1 ≤ 0 then some (0, G) else some (s.1, G)) = some (max 0 s.1, G)
    by_cases z : s.1 ≤ 0
    · rw [if_pos z, show max 0 s.1 = 0 by omega]
    · rw [if_neg z, show max 0 s.1 = s.1 by omega]
  | cons l post ih =>
    intro pre n G s hn hL hA
    rw [List.length_cons] at hn
    obtain ⟨n', rfl⟩ : ∃ n', n = n' + 1 := ⟨n - 1, by omega⟩
    obtain ⟨h1, h2, h3, h4, h5, h6, h7⟩ := id hL
    obtain ⟨a1, a2, a3, a4, a5⟩ := line_at (pre := pre) (post := post) (l := l)
    have hlen : (pre ++ l :: post).length = pre.length + 1 + post.length := by simp; omega
    have c1 := h5 pre.length (by omega)
    have c2 := h6 pre.length (by omega)
    have c3 := h6 (pre.length + 1) (by omega)
    rw [a1, a2] at c1
    rw [a2] at c2
    rw [a3] at c3
    have hw : wr ((pre.length : Int) + 1) = ((pre ++ [l]).length : Int) := by rw [wr_of (by omega) (by omega)]; simp
    have w1 : wr ((30 * (r : Int)) + (pre.length : Int)) = ((30 * r + pre.length : Nat) : Int) := by rw [wr_of (by omega) (by omega)]; omega
    have w2 : wr ((31 * (r : Int)) + (pre.length : Int)) = ((31 * r + pre.length : Nat) : Int) := by rw [wr_of (by omega) (by omega)]; omega
    have w3 : wr (((31 * (r : Int)) + (pre.length : Int)) + 1) = ((31 * r + (pre.length + 1) : Nat) : Int) := by rw [wr_of (by omega) (by omega)]; omega
    have hcut : pre ++ l :: post = (pre ++ [l]) ++ post := by simp
    have go : ∀ (G1 : GS) (x : Int), Pf G G1 → x = (linS A s l).1 → ∃ G', f_Model_relief_L64 n' G1 r x ((pre ++ [l]).length : Int) = some (max 0 ((l :: post).foldl (linS A) s).1, G') ∧ Pf G G' := fun G1 x hp hx => by
      subst hx
      obtain ⟨G2, u1, u2⟩ := ih (pre ++ [l]) n' G1 (linS A s l) (by omega) (by rw [← hcut]; exact LawM_fr hp hL) (AskM_fr hp hA)
      exact ⟨G2, u1, hp.trans u2⟩
    have hlm := fun (G1 : GS) (hp : Pf G G1) => line_M hAw hr (LawM_fr hp hL) (AskM_fr hp hA)
    rw [f_Model_relief_L64, gd, if_pos (by omega), Int.toNat_natCast, h4, if_neg (by omega), w1, gd, if_pos (by omega), Int.toNat_natCast, c1.1]
    by_cases k8 : l.1 = 8
    · obtain ⟨t1, t2⟩ := (h3 l (by simp)).2.1 k8
      have hsum : ∀ (G1 : GS) (e : Int), Pf G G1 → e = (((stepL pre).length + l.2.1.length : Nat) : Int) → (linS A s l).1 = wr (s.1 + evH A l.2.1) → ∃ G', f_Model_relief_L150 (f_Model_relief_L64 n') G1 r s.1 pre.length e = some (max 0 ((l :: post).foldl (linS A) s).1, G') ∧ Pf G G' := fun G1 e hp he hx => by
        obtain ⟨G2, q1, q2⟩ := (hlm G1 hp).1 l.2.1 false rfl t1
        have c2' : gi G1 106 (31 * r + pre.length) = ((stepL pre).length : Nat) := by rw [hp.1 106 _ (by decide)]; exact c2
        unfold f_Model_relief_L150
        rw [w2, gd, if_pos (by omega), Int.toNat_natCast, c2', he, q1, Option.bind_some, f_Model_relief_L176, hw]
        exact go G2 _ (hp.trans q2) hx.symm
      have c1' : gi G 107 (30 * r + pre.length) = (((stepL pre).length + l.2.1.length : Nat) : Int) := by rw [c1.2]; omega
      rw [if_pos k8, gd, if_pos (by omega), w3, gd, if_pos (by omega), Int.toNat_natCast, c3, c1']
      by_cases z : l.2.2 = []
      · rw [if_pos (by rw [z, List.length_nil]; omega)]
        exact hsum G _ (Pf.rf G) rfl (by unfold linS; rw [if_pos k8, if_pos (Or.inl z)])
      · have t3 : typF l.2.2 [] = some [true] := by
          rcases t2 with y | y
          · exact absurd y z
          · exact y
        have hpos : 0 < l.2.2.length := List.length_pos_iff.mpr z
        rw [if_neg (by omega)]
        obtain ⟨G1, q1, q2, q3⟩ := (hlm G (Pf.rf G)).2 t3
        have c3' : (((stepL pre).length : Int) + (l.2.1.length : Int) + (l.2.2.length : Int)) = (((stepL pre).length + l.2.1.length + l.2.2.length : Nat) : Int) := by omega
        rw [q1, Option.bind_some]
        show ∃ G', (if evH A l.2.2 = 1 then _ else _) = _ ∧ _
        by_cases y : evH A l.2.2 = 1
        · rw [if_pos y]
          exact hsum G1 _ q2 rfl (by unfold linS; rw [if_pos k8, if_pos (Or.inr (by omega))])
        · rw [if_neg y, f_Model_relief_L176, hw]
          exact go G1 _ q2 (by unfold linS; rw [if_pos k8, if_neg (fun w => by rcases w with w | w; exact z w; omega)])
    · rw [if_neg k8, f_Model_relief_L176, hw]
      exact go G _ (Pf.rf G) (linS_8 k8).symm
theorem kinM_L {A : Nat → Int} (hAw : ∀ k, wr (A k) = A k) {r : Nat} (hr : r < 4) : ∀ (post pre : List (Int × Fm × Fm)) (n : Nat) (G : GS) (s : Int × Int), (s.2 = 0 ∨ s.2 = 1) → post.length < n → LawM G r (pre ++ post) → AskM G A → ∃ G', f_Model_isKings_L127 n G r s.2 pre.length = some ((post.foldl (linS A) s).2, G') ∧ Pf G G' := by
  intro post
  induction post with
  | nil =>
    intro pre n G s hs hn hL hA
    obtain ⟨n', rfl⟩ : ∃ n', n = n' + 1 := ⟨n - 1, by rw [List.length_nil] at hn; omega⟩
    have h4 := hL.2.2.2.1
    rw [List.append_nil] at h4
    refine ⟨G, ?_, Pf.rf G⟩
    rw [f_Model_isKings_L127, gd, if_pos (by omega), Int.toNat_natCast, h4, if_pos (Int.le_refl _), gd, if_pos hs]
    rfl
  | cons l post ih =>
    intro pre n G s hs hn hL hA
    rw [List.length_cons] at hn
    obtain ⟨n', rfl⟩ : ∃ n', n = n' + 1 := ⟨n - 1, by omega⟩
    obtain ⟨h1, h2, h3, h4, h5, h6, h7⟩ := id hL
    obtain ⟨a1, a2, a3, a4, a5⟩ := line_at (pre := pre) (post := post) (l := l)
    have hlen : (pre ++ l :: post).length = pre.length + 1 + post.length := by simp; omega
    have c1 := h5 pre.length (by omega)
    have c2 := h6 pre.length (by omega)
    have c3 := h6 (pre.length + 1) (by omega)
    rw [a1, a2] at c1
    rw [a2] at c2
    rw [a3] at c3
    have hw : wr ((pre.length : Int) + 1) = ((pre ++ [l]).length : Int) := by rw [wr_of (by omega) (by omega)]; simp
    have w1 : wr ((30 * (r : Int)) + (pre.length : Int)) = ((30 * r + pre.length : Nat) : Int) := by rw [wr_of (by omega) (by omega)]; omega
    have w2 : wr ((31 * (r : Int)) + (pre.length : Int)) = ((31 * r + pre.length : Nat) : Int) := by rw [wr_of (by omega) (by omega)]; omega
    have w3 : wr (((31 * (r : Int)) + (pre.length : Int)) + 1) = ((31 * r + (pre.length + 1) : Nat) : Int) := by rw [wr_of (by omega) (by omega)]; omega
    have hcut : pre ++ l :: post = (pre ++ [l]) ++ post := by simp
    have hs2 : (linS A s l).2 = 0 ∨ (linS A s l).2 = 1 := by
      rcases hs with z | z
      · by_cases k9 : l.1 = 9
        · unfold linS
          rw [if_neg (by omega), if_pos k9]
          split
          · exact Or.inr rfl
          · exact Or.inl z
        · rw [linS_9 k9]; exact Or.inl z
      · exact Or.inr (linS_1 z)
    have go : ∀ (G1 : GS) (x : Int), Pf G G1 → x = (linS A s l).2 → ∃ G', f_Model_isKings_L127 n' G1 r x ((pre ++ [l]).length : Int) = some (((l :: post).foldl (linS A) s).2, G') ∧ Pf G G' := fun G1 x hp hx => by
      subst hx
      obtain ⟨G2, u1, u2⟩ := ih (pre ++ [l]) n' G1 (linS A s l) hs2 (by omega) (by rw [← hcut]; exact LawM_fr hp hL) (AskM_fr hp hA)
      exact ⟨G2, u1, hp.trans u2⟩
    rw [f_Model_isKings_L127, gd, if_pos (by omega), Int.toNat_natCast, h4, if_neg (by omega)]
    rcases hs with z | z
    · rw [if_pos z, w1, gd, if_pos (by omega), Int.toNat_natCast, c1.1]
      by_cases k9 : l.1 = 9
      · obtain ⟨t0, t3⟩ := (h3 l (by simp)).2.2.1 k9
        obtain ⟨G1, q1, q2, q3⟩ := (line_M hAw hr hL hA).2 t3
        rw [t0, List.length_nil, Nat.add_zero (stepL pre).length] at q1
        rw [t0, List.length_nil, Nat.add_zero (stepL pre).length] at c3
        have c3' : (((stepL pre).length + l.2.2.length : Nat) : Int) = (((stepL pre).length + l.2.2.length : Nat) : Int) := rfl
        rw [if_pos k9, w2, gd, if_pos (by omega), w3, gd, if_pos (by omega), Int.toNat_natCast, Int.toNat_natCast, c2, c3]
        rw [q1, Option.bind_some]
        show ∃ G', (if evH A l.2.2 = 1 then _ else _) = _ ∧ _
        by_cases y : evH A l.2.2 = 1
        · rw [if_pos y, f_Model_isKings_L200, f_Model_isKings_L205, hw]
          exact go G1 1 q2 (by unfold linS; rw [if_neg (by omega), if_pos k9, if_pos (by omega)])
        · rw [if_neg y, f_Model_isKings_L204, f_Model_isKings_L205, hw]
          exact go G1 0 q2 (by unfold linS; rw [if_neg (by omega), if_pos k9, if_neg (by omega)]; exact z.symm)
      · rw [if_neg k9, f_Model_isKings_L204, f_Model_isKings_L205, hw]
        exact go G 0 (Pf.rf G) (by rw [linS_9 k9]; exact z.symm)
    · rw [if_neg (by omega), f_Model_isKings_L200, f_Model_isKings_L205, hw]
      exact go G 1 (Pf.rf G) (linS_1 z).symm
