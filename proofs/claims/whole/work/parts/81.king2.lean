/-! the king's right, the reckoning, profit -/
theorem lin_01 {A : Nat → Int} : ∀ (ls : List (Int × Fm × Fm)) (s : Int × Int), (s.2 = 0 ∨ s.2 = 1) → (ls.foldl (linS A) s).2 = 0 ∨ (ls.foldl (linS A) s).2 = 1 := by
  intro ls
  induction ls with
  | nil => intro s h; exact h
  | cons l t ih =>
    intro s h
    refine ih (linS A s l) ?_
    unfold linS
    split
    · split
      · exact h
      · exact h
    · split
      · split
        · exact Or.inr rfl
        · exact h
      · exact h
theorem LawM_sc {G G' : GS} {r : Nat} {ls : List (Int × Fm × Fm)} (hi : ∀ c k, ¬ scr c k → gi G' c k = gi G c k) (hL : LawM G r ls) : LawM G' r ls := by
  unfold LawM at hL ⊢
  have m : ∀ c k, 104 ≤ c → c ≤ 108 → gi G' c k = gi G c k := fun c k a b => hi c k (by unfold scr; omega)
  simp only [m 104 _ (by decide) (by decide), m 105 _ (by decide) (by decide), m 106 _ (by decide) (by decide), m 107 _ (by decide) (by decide), m 108 _ (by decide) (by decide)]
  exact hL
/-- the law's lines of the reign that counts -/
theorem law_ls {G : GS} {F : Fam} {p l r : Nat} (hA : Asked G F p l r) : ∃ ls, LawM G r ls ∧ (codeL ls).length ≤ 800 ∧ gi G (gp G 49 r) 9 = (codeL ls).length ∧ ∀ i : Nat, i < (codeL ls).length → gi G (gp G 49 r + 5) i = (codeL ls).getD i 0 := by
  obtain ⟨ls, x1, x2, x3, x4, x5, x6, x7, x8, x9, x10⟩ := (lawV hA).2.2.2.2
  exact ⟨ls, ⟨x1, x3, x4, x7, x8, x9, x10⟩, x2, x5, x6⟩
theorem rek_C {Ga G : GS} {F : Fam} {p l r : Nat} {o : Option Nat} {ls : List (Int × Fm × Fm)} (hA : Asked G F p l r) (hls : LawM G r ls ∧ (codeL ls).length ≤ 800 ∧ gi G (gp G 49 r) 9 = (codeL ls).length ∧ ∀ i : Nat, i < (codeL ls).length → gi G (gp G 49 r + 5) i = (codeL ls).getD i 0) (hi : ∀ c k, ¬ scr c k → gi Ga c k = gi G c k) (hp : ∀ c k, gp Ga c k = gp G c k) (hL : LayE Ga F p) (ho : ∀ q, o = some q → (q : Int) < gi G 1 7 ∧ gl Ga 33 32 = ((ev F q 0 (tps F p)).1 : Int) ∧ gl Ga 34 32 = ((ev F q 0 (tps F p)).2 : Int)) : ∃ Gb Gc, f_Hall_ask Ga p l (oI o) = some Gb ∧ f_Hall_lawAt Gb (gi Gb 7 p) = some (gp G 49 r) ∧ f_Reckoner_reckon Gb (gp G 49 r) = some Gc ∧ gi Gc 35 3 = (ls.foldl (linS (AV G F p l o)) (0, 0)).1 ∧ gi Gc 35 4 = (ls.foldl (linS (AV G F p l o)) (0, 0)).2 ∧ (∀ c k, ¬ scr c k → gi Gc c k = gi G c k) ∧ (∀ c k, gp Gc c k = gp G c k) := by
  obtain ⟨h1, h2, h3, h4, h5, h6⟩ := askR hA
  have lc := hA.1.2.2.2.2.2.2.2.2.1 r h6
  have lr := law_rng lc
  obtain ⟨Gb, b1, b2, b3, b4⟩ := askC_eq (o := o) hA.2.1 hA.2.2.2.2.2.2.2.2.1 hA.1.2.2.1 hA.1.2.1 h2 h1 hi (lay_ct hA.2.1 hL) ho
  have hib : ∀ c k, ¬ scr c k → gi Gb c k = gi G c k := fun c k z => (b3 c k (by unfold scr at z; omega)).trans (hi c k z)
  have hpb : ∀ c k, gp Gb c k = gp G c k := fun c k => (b4 c k).trans (hp c k)
  have hAb := hA.fr hib hpb
  have hla := lawH hAb
  rw [hpb] at hla
  obtain ⟨Gc, c1, c2, c3, c4⟩ := reck_C (AV_wr hA.1.2.2.1 hA.2.1.1) lc hls.1.2.2.1 (by rw [hib _ _ (by unfold scr; omega)]; exact hls.2.2.1) hls.2.1 (fun i hi => by rw [hib _ _ (by unfold scr; omega)]; exact hls.2.2.2 i hi) b2
  exact ⟨Gb, Gc, b1, hla, c1, c2, c3, fun c k z => (c4.1 c k (by unfold scr at z; omega) (by unfold scr at z; omega)).trans (hib c k z), fun c k => (c4.2 c k).trans (hpb c k)⟩
theorem kings {G : GS} {F : Fam} {p l r : Nat} (hA : Asked G F p l r) (hL : LayE G F p) : ∃ (K : Int) (G' : GS), f_Hall_isKingsRight G p l = some (K, G') ∧ (K = 0 ∨ K = 1) ∧ (∀ c k, ¬ scr c k → gi G' c k = gi G c k) ∧ (∀ c k, gp G' c k = gp G c k) ∧ ∀ G2, (∀ c k, ¬ scr c k → gi G2 c k = gi G c k) → (∀ c k, gp G2 c k = gp G c k) → ∃ G3, f_Model_isKings G2 p l = some (K, G3) ∧ Mg G2 G3 := by
  obtain ⟨h1, h2, h3, h4, h5, h6⟩ := askR hA
  have hF := hA.2.1
  have hN := hF.1
  have hB := hA.2.2.1.1
  have hpN := hA.2.2.2.2.2.2.2.2.1
  obtain ⟨o, hoo⟩ : ∃ o, o = lo (hrF F p) F.2.2.2 0 := ⟨_, rfl⟩
  have hq : ∀ q, o = some q → (q : Int) < gi G 1 7 := fun q h => by
    have := lo_in _ _ _ (hoo.symm.trans h); omega
  have f1 : f_Descent_firstHeir G = some (oI o) := by
    rw [hoo]
    exact first_C hL hN hB F.2.2.2 0 FU (by omega) (by unfold FU; omega)
  obtain ⟨ls, hls⟩ := law_ls hA
  -- the part of the first heir
  obtain ⟨Ga, ha, ai, ap, aL, ao⟩ : ∃ Ga, f_Hall_isKingsRight G p l = f_Hall_isKingsRight_L22 Ga p l (oI o) ∧ (∀ c k, ¬ scr c k → gi Ga c k = gi G c k) ∧ (∀ c k, gp Ga c k = gp G c k) ∧ LayE Ga F p ∧ ∀ q, o = some q → (q : Int) < gi G 1 7 ∧ gl Ga 33 32 = ((ev F q 0 (tps F p)).1 : Int) ∧ gl Ga 34 32 = ((ev F q 0 (tps F p)).2 : Int) := by
    cases o with
    | none =>
      refine ⟨G, ?_, fun _ _ _ => rfl, fun _ _ => rfl, hL, fun q h => by cases h⟩
      rw [f_Hall_isKingsRight, f1, Option.bind_some, if_pos (show oI none = -1 from rfl)]
    | some q =>
      have q1 := hq q rfl
      obtain ⟨Ga, s1, s2, s3, s4, s5, s6⟩ := part_eq (how := 0) hF hpN hL (q := q) (by omega)
      refine ⟨Ga, ?_, fun c k _ => s2 c k, s3, s4, fun x h => ?_⟩
      · rw [f_Hall_isKingsRight, f1, Option.bind_some, if_neg (show ¬ oI (some q) = -1 by show ¬ (q : Int) = -1; omega)]
        show (f_Descent_part G q 0).bind _ = _
        rw [s1, Option.bind_some]
      · have e : q = x := Option.some.inj h
        subst e
        exact ⟨q1, s5, s6⟩
  obtain ⟨Gb, Gc, b1, b2, b3, b4, b5, ci, cp⟩ := rek_C hA hls ai ap aL ao
  have hAc := hA.fr ci cp
  obtain ⟨b, bb, hb, -⟩ := held_L (G0 := Gc) hAc (fun _ _ _ => rfl) FU 0 (by omega) (by unfold FU; omega)
  have s01 := lin_01 (A := AV G F p l o) ls (0, 0) (Or.inl rfl)
  obtain ⟨s, hs⟩ : ∃ s, s = (ls.foldl (linS (AV G F p l o)) (0, 0)).2 := ⟨_, rfl⟩
  rw [← hs] at b5 s01
  refine ⟨if s = 0 ∧ b = 0 then 0 else 1, Gc, ?_, by split <;> simp, ci, cp, fun G2 i2 p2 => ?_⟩
  · have hb' : f_Hall_heldOfKing Gc p = some b := hb
    rw [ha, f_Hall_isKingsRight_L22, b1, Option.bind_some, gd, if_pos (by omega), Int.toNat_natCast, b2, Option.bind_some, b3, Option.bind_some, b5]
    by_cases z : s = 0
    · rw [if_pos z, hb', Option.bind_some]
      by_cases y : b = 0
      · rw [if_pos y, if_pos ⟨z, y⟩]
      · rw [if_neg y, if_neg (fun w => y w.2)]
    · rw [if_neg z, if_neg (fun w => z w.1)]
  · have hA2 := hA.fr i2 p2
    obtain ⟨b', bb', hb', hm⟩ := held_L (G0 := Gc) hA2 (fun c k z => by rw [i2 c k z, ci c k z]) FU 0 (by omega) (by unfold FU; omega)
    have e : b' = b := Option.some.inj (hb'.symm.trans hb)
    subst e
    have hm' : f_Model_isKings G2 p l = if b' = 1 then some (1, G2) else f_Model_isKings_L77 FU G2 p l (-1) (wr (gi G2 81 1 - 1)) := hm
    rw [hm']
    rcases bb' with y | y
    · rw [if_neg (by omega)]
      have e1 : gi G2 81 1 = F.2.2.2 := by rw [(eqS_in hA2.1.1).2.1]; exact hA2.2.2.1.1
      obtain ⟨G4, u1, u2⟩ := first_M F.2.2.2 FU G2 (Nat.le_refl _) (by unfold FU; omega) hA2
      rw [Nat.sub_self] at u2
      have u2' : f_Model_isKings_L77 FU G2 p l (-1) ((F.2.2.2 : Int) - 1) = _ := u2
      have el : wr (gi G2 81 1 - 1) = (F.2.2.2 : Int) - 1 := by rw [e1, wr_of (by omega) (by omega)]
      rw [el, u2', ← hoo]
      have hA4 := (Mg.of_q u1).ask hA2
      obtain ⟨G5, v1, v2, v3⟩ := gath_M (o := o) hA4 (fun q h => by rw [(Mg.of_q u1).sc 1 7 (by unfold scr; omega), i2 1 7 (by unfold scr; omega)]; exact hq q h)
      rw [AV_fr (Mg.of_q u1).sc, AV_fr i2] at v2
      have hA5 := v3.ask hA4
      have rm := reignM hA5
      have sc5 : ∀ c k, ¬ scr c k → gi G5 c k = gi G c k := fun c k z => by rw [v3.sc c k z, (Mg.of_q u1).sc c k z, i2 c k z]
      obtain ⟨G6, k1, k2⟩ := kinM_L (AV_wr (p := p) (l := l) (o := o) hA.1.2.2.1 hN) h6 ls [] FU G5 (0, 0) (Or.inl rfl) (by have := hls.1.1; unfold FU; omega) (LawM_sc sc5 hls.1) v2
      have k1' : f_Model_isKings_L127 FU G5 r 0 0 = some (s, G6) := by rw [hs]; exact k1
      refine ⟨G6, ?_, (Mg.of_q u1).trans (v3.trans (Mg.of_p k2))⟩
      rw [v1, Option.bind_some, gd, if_pos (by omega), Int.toNat_natCast, rm, Option.bind_some, k1']
      rcases s01 with z | z
      · rw [if_pos ⟨z, y⟩, z]
      · rw [if_neg (by omega), z]
    · rw [if_pos y, if_neg (by omega)]
      exact ⟨G2, rfl, Mg.rf G2⟩
theorem ev_bd {F : Fam} (hF : FOK F) (q : Nat) (way : Int) (dead : Nat) : (ev F q way (tps F dead)).2 < 8589934592 := by
  cases ht : tps F dead with
  | none => show 1 < 8589934592; decide
  | some t =>
    show (kv F way (vv F q way) t.1 t.2).2 < 8589934592
    have hN := hF.1
    by_cases c : t.1 < F.2.2.2
    · obtain ⟨M, M0, M1, M2⟩ := vv_b hF q way (i := t.1 + 1) (by omega)
      have kd := (kv_div hF (way := way) (v := vv F q way) (p := t.1) (but := t.2) (fun c _ hc => vv_g hF q way hc)).2 M (fun c a b => M2 c (by omega) b)
      have hn : fb_ct (stk F t.1 t.2) F.2.2.2 < 40 := by
        have := fb_ct_le (stk F t.1 t.2) F.2.2.2
        omega
      have hstep := tt_step F t.1 t.2
      have htt := tt_le hF t.1
      have hc := cube3 _ hn
      generalize fb_ct (stk F t.1 t.2) F.2.2.2 = n at *
      have hle := Nat.le_of_dvd (Nat.mul_pos M0 (by omega)) kd
      refine Nat.lt_of_le_of_lt hle ?_
      rcases Nat.lt_or_ge (M * max 1 n) 8589934592 with y | y
      · exact y
      · have hmx : (max 1 n) ^ 3 ≤ 3 ^ n := by
          by_cases w : n = 0
          · subst w; decide
          · rw [show max 1 n = n by omega]; exact hc
        have a0 := Nat.mul_le_mul M1 hmx
        rw [← Nat.pow_add, ← Nat.mul_pow] at a0
        have a1 : 8589934592 ^ 3 ≤ (M * max 1 n) ^ 3 := Nat.pow_le_pow_left y 3
        have a2 := pow3_mono (show tt F (t.1 + 1) + n ≤ 62 by omega)
        have a3 : (3 : Nat) ^ 62 < 8589934592 ^ 3 := by decide +kernel
        omega
    · have h0 : anyB (stk F t.1 t.2) F.2.2.2 = false := by
        rw [anyB_f]
        intro i hi
        cases z : stk F t.1 t.2 i
        · rfl
        · have := (stk_gt z).1; omega
      unfold kv
      rw [if_neg (by rw [h0]; decide)]
      show 1 < 8589934592
      decide
