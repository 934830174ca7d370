/-! what the reference gathers; who is of age -/
def Mg (G G' : GS) : Prop := (∀ c k, ¬ (c = 118 ∨ c = 119 ∨ c = 122 ∨ (c = 81 ∧ 55 ≤ k ∧ k ≤ 57)) → gi G' c k = gi G c k) ∧ ∀ c k, gp G' c k = gp G c k
theorem Mg.rf (G : GS) : Mg G G := ⟨fun _ _ _ => rfl, fun _ _ => rfl⟩
theorem Mg.trans {A B C : GS} (h1 : Mg A B) (h2 : Mg B C) : Mg A C := ⟨fun c k z => (h2.1 c k z).trans (h1.1 c k z), fun c k => (h2.2 c k).trans (h1.2 c k)⟩
theorem Mg.of_q {G G' : GS} (h : Mq G G') : Mg G G' := ⟨fun c k z => h.1 c k (by omega), h.2⟩
theorem Mg.of_p {G G' : GS} (h : Pf G G') : Mg G G' := ⟨fun c k z => h.1 c k (by omega), h.2⟩
theorem Mg_si {G : GS} {k : Nat} {v : Int} : Mg G (si G 122 k v) := ⟨fun c' k' z => by rw [gi_ne (by omega)], fun _ _ => rfl⟩
theorem Mg.sc {G G' : GS} (h : Mg G G') : ∀ c k, ¬ scr c k → gi G' c k = gi G c k := fun c k z => h.1 c k (by unfold scr at z; omega)
theorem Mg.ask {G G' : GS} {F : Fam} {p l r : Nat} (h : Mg G G') (hA : Asked G F p l r) : Asked G' F p l r := hA.fr h.sc h.2
theorem gLa_fr {G G' : GS} (hi : ∀ c k, ¬ scr c k → gi G' c k = gi G c k) (l : Nat) : gLa G' l = gLa G l := by funext a; exact hi 13 _ (by unfold scr; omega)
theorem AV_fr {G G' : GS} (hi : ∀ c k, ¬ scr c k → gi G' c k = gi G c k) (F : Fam) (p l : Nat) (o : Option Nat) : AV G' F p l o = AV G F p l o := by
  unfold AV
  rw [gLa_fr hi l, hi 10 l (by unfold scr; omega), hi 11 l (by unfold scr; omega), hi 7 p (by unfold scr; omega)]
  cases o with
  | none => rfl
  | some q => dsimp only; rw [hi 6 q (by unfold scr; omega)]
theorem acM {G : GS} {p x3 : Int} {l : Nat} (hl : l < 12) (e93 : ∀ k, gi G 93 k = gi G 13 k) : ∀ (j i n : Nat), i + j = 6 → f_Model_gathers_L6 (n + j) G p l x3 (acN (gLa G l) i : Int) i = f_Model_gathers_L6 n G p l x3 (acN (gLa G l) 6 : Int) 6 := by
  intro j
  induction j with
  | zero =>
    intro i n h
    have : i = 6 := by omega
    subst this
    rfl
  | succ j ih =>
    intro i n h
    have hw : wr ((i : Int) + 1) = ((i + 1 : Nat) : Int) := by rw [wr_of (by omega) (by omega)]; omega
    have hw1 : wr ((6 * (l : Int)) + i) = ((6 * l + i : Nat) : Int) := by rw [wr_of (by omega) (by omega)]; omega
    have hle := acN_le (gLa G l) i
    have ih' := ih (i + 1) n (by omega)
    have hg : gi G 93 (6 * l + i) = gLa G l i := e93 _
    rw [acN] at ih'
    rw [← Nat.add_assoc, f_Model_gathers_L6, if_neg (by omega), hw1, gd, if_pos (by omega), Int.toNat_natCast, hg]
    generalize acN (gLa G l) i = k at *
    by_cases d : gLa G l i ≤ 0
    · have hk : wr ((k : Int) + 0) = ((k + 0 : Nat) : Int) := by rw [wr_of (by omega) (by omega)]; omega
      rw [if_neg (by omega)] at ih'
      rw [if_pos d, f_Model_gathers_L35, hw, hk]
      exact ih'
    · have hk : wr ((k : Int) + 1) = ((k + 1 : Nat) : Int) := by rw [wr_of (by omega) (by omega)]; omega
      rw [if_pos (by omega)] at ih'
      rw [if_neg d, f_Model_gathers_L35, hw, hk]
      exact ih'
theorem gath_M {G : GS} {F : Fam} {p l r : Nat} {o : Option Nat} (hA : Asked G F p l r) (ho : ∀ q, o = some q → (q : Int) < gi G 1 7) : ∃ G', f_Model_gathers G p l (oI o) = some G' ∧ AskM G' (AV G F p l o) ∧ Mg G G' := by
  obtain ⟨hI, hF, hB, hD, hC, r4, hon, hday, hpN, hl⟩ := id hA
  obtain ⟨hE, hP, hL, -⟩ := hI
  have hN := hF.1
  have l1 := hL.2.1
  have hl12 : l < 12 := by omega
  have e93 : ∀ k, gi G 93 k = gi G 13 k := fun k => hE.1 (93, 13) (by decide) k
  have e90 := hE.1 (90, 10) (by decide) l
  have e91 := hE.1 (91, 11) (by decide) l
  have e87 := hE.1 (87, 7) (by decide) p
  simp only at e90 e91 e87
  have w1 := worth_M hL e93 hl12
  have wb := W6_b (Acr_of hL l) 63
  have ab := acN_le (gLa G l) 6
  have cb := fb_ct_le (fun i => decide (0 < (ev F i 0 (tps F p)).1)) F.2.2.2
  have gl12 : (0 : Int) ≤ (l : Int) ∧ (l : Int) < 12 := by omega
  -- the first four
  obtain ⟨G4, hG4⟩ : ∃ G4, G4 = si (si (si (si G 122 1 (W6 (gLa G l) 63)) 122 2 (acN (gLa G l) 6 : Int)) 122 3 (gi G 10 l)) 122 4 (gi G 11 l) := ⟨_, rfl⟩
  have m4 : Mg G G4 := by rw [hG4]; exact Mg_si.trans (Mg_si.trans (Mg_si.trans Mg_si))
  have v1 : gi G4 122 1 = W6 (gLa G l) 63 := by
    rw [hG4, gi_si, if_neg (by omega), gi_si, if_neg (by omega), gi_si, if_neg (by omega), gi_si, if_pos ⟨rfl, rfl⟩]; exact wr_of (by omega) (by omega)
  have v2 : gi G4 122 2 = (acN (gLa G l) 6 : Int) := by
    rw [hG4, gi_si, if_neg (by omega), gi_si, if_neg (by omega), gi_si, if_pos ⟨rfl, rfl⟩]; exact wr_of (by omega) (by omega)
  have v3 : gi G4 122 3 = gi G 10 l := by
    rw [hG4, gi_si, if_neg (by omega), gi_si, if_pos ⟨rfl, rfl⟩]; exact wr_gi _ _ _
  have v4 : gi G4 122 4 = gi G 11 l := by
    rw [hG4, gi_si, if_pos ⟨rfl, rfl⟩]; exact wr_gi _ _ _
  have hA4 := m4.ask hA
  obtain ⟨G5, u1, u2⟩ := heirs_M hA4
  obtain ⟨G7, hG7⟩ : ∃ G7, G7 = si (si (si G5 122 6 (fb_ct (fun i => decide (0 < (ev F i 0 (tps F p)).1)) F.2.2.2 : Int)) 122 5 0) 122 7 0 := ⟨_, rfl⟩
  have m57 : Mg G5 G7 := by rw [hG7]; exact Mg_si.trans (Mg_si.trans Mg_si)
  have m7 : Mg G G7 := m4.trans ((Mg.of_q u2).trans m57)
  have o7 : ∀ k, k ≤ 4 → gi G7 122 k = gi G4 122 k := fun k hk => by
    rw [hG7, gi_si, if_neg (by omega), gi_si, if_neg (by omega), gi_si, if_neg (by omega)]; exact u2.1 122 k (by omega)
  have v5 : gi G7 122 5 = 0 := by rw [hG7, gi_si, if_neg (by omega), gi_si, if_pos ⟨rfl, rfl⟩]; exact wr_zero
  have v6 : gi G7 122 6 = (fb_ct (fun i => decide (0 < (ev F i 0 (tps F p)).1)) F.2.2.2 : Int) := by
    rw [hG7, gi_si, if_neg (by omega), gi_si, if_neg (by omega), gi_si, if_pos ⟨rfl, rfl⟩]; exact wr_of (by omega) (by omega)
  have v7 : gi G7 122 7 = 0 := by rw [hG7, gi_si, if_pos ⟨rfl, rfl⟩]; exact wr_zero
  have main : f_Model_gathers G p l (oI o) = (if oI o = -1 then some G7 else (f_Model_partOf G7 p l (oI o) 0).bind fun q3 => gd (¬ gl q3 81 62 = 0) <| wG (si q3 122 7 (ldv (100 * (gl q3 81 61)) (gl q3 81 62))) fun G8 => gd (0 ≤ (p : Int) ∧ (p : Int) < 32) <| gd (0 ≤ oI o ∧ oI o < 32) <| if gi G8 87 (p : Int).toNat ≤ gi G8 86 (oI o).toNat then f_Model_gathers_L191 G8 0 5 else gd (0 ≤ (p : Int) ∧ (p : Int) < 32) <| gd (0 ≤ oI o ∧ oI o < 32) <| f_Model_gathers_L191 G8 (dv ((gi G8 87 (p : Int).toNat) - (gi G8 86 (oI o).toNat)) 360) 5) := by
    have h0 := acM (G := G) (p := p) (x3 := oI o) hl12 e93 6 0 39994 rfl
    unfold f_Model_gathers
    rw [show FU = 39994 + 6 from rfl]
    refine Eq.trans h0 ?_
    have b10 : gi (si (si G 122 1 (W6 (gLa G l) 63)) 122 2 (acN (gLa G l) 6 : Int)) 90 l = gi G 10 l := by rw [gi_ne (by decide), gi_ne (by decide)]; exact e90
    have b11 : gi (si (si (si G 122 1 (W6 (gLa G l) 63)) 122 2 (acN (gLa G l) 6 : Int)) 122 3 (gi G 10 l)) 91 l = gi G 11 l := by rw [gi_ne (by decide), gi_ne (by decide), gi_ne (by decide)]; exact e91
    have hgG : gd (0 ≤ (l : Int) ∧ (l : Int) < 12) = (fun A : Option GS => A) := by funext A; rw [gd, if_pos gl12]
    rw [show (39994 : Nat) = 39993 + 1 from rfl, f_Model_gathers_L6, if_pos (Int.le_refl _), w1, Option.bind_some]
    simp only [wG, hgG, Int.toNat_natCast, b10, b11]
    rw [← hG4, u1, Option.bind_some]
    show (if oI o = -1 then some (si (si (si G5 122 6 (fb_ct (fun i => decide (0 < (ev F i 0 (tps F p)).1)) F.2.2.2 : Int)) 122 5 0) 122 7 0) else _) = _
    rw [← hG7]
  rw [main]
  cases o with
  | none =>
    refine ⟨G7, if_pos (show oI none = -1 from rfl), ?_, m7⟩
    intro k h1 h7
    have h : k = 1 ∨ k = 2 ∨ k = 3 ∨ k = 4 ∨ k = 5 ∨ k = 6 ∨ k = 7 := by omega
    rcases h with rfl | rfl | rfl | rfl | rfl | rfl | rfl
    · exact (o7 1 (by decide)).trans v1
    · exact (o7 2 (by decide)).trans v2
    · exact (o7 3 (by decide)).trans v3
    · exact (o7 4 (by decide)).trans v4
    · exact v5
    · exact v6
    · exact v7
  | some q =>
    have q1 := ho q rfl
    have k1 := hP.2.2.2.1
    have e86 := hE.1 (86, 6) (by decide) q
    simp only at e86
    obtain ⟨G8, s1, s2, s3⟩ := partM (q := q) (way := 0) (m7.ask hA) (by decide)
    have hg := ev_2 hF (q := q) (way := 0) hpN
    have hz : ¬ gl G8 81 62 = 0 := by rw [s3.2]; have := hg.1.1; omega
    obtain ⟨G9, hG9⟩ : ∃ G9, G9 = si G8 122 7 (ldv (100 * ((ev F q 0 (tps F p)).1 : Int)) ((ev F q 0 (tps F p)).2 : Int)) := ⟨_, rfl⟩
    have m9 : Mg G G9 := m7.trans ((Mg.of_q s2).trans (by rw [hG9]; exact Mg_si))
    have d7 : gi G9 87 p = gi G 7 p := by rw [m9.1 87 p (by omega)]; exact e87
    have d6 : gi G9 86 q = gi G 6 q := by rw [m9.1 86 q (by omega)]; exact e86
    refine ⟨si G9 122 5 (if gi G 7 p ≤ gi G 6 q then 0 else dv (gi G 7 p - gi G 6 q) 360), ?_, ?_, m9.trans Mg_si⟩
    · have s1' : f_Model_partOf G7 p l (oI (some q)) 0 = some G8 := s1
      rw [if_neg (show ¬ oI (some q) = -1 by show ¬ (q : Int) = -1; omega), s1', Option.bind_some, gd, if_pos hz, s3.1, s3.2]
      unfold wG
      rw [← hG9]
      dsimp only
      rw [gd, if_pos (show (0 : Int) ≤ (p : Int) ∧ (p : Int) < 32 by omega), gd, if_pos (show 0 ≤ oI (some q) ∧ oI (some q) < 32 by show (0 : Int) ≤ (q : Int) ∧ (q : Int) < 32; omega), gd, if_pos (show (0 : Int) ≤ (p : Int) ∧ (p : Int) < 32 by omega), gd, if_pos (show 0 ≤ oI (some q) ∧ oI (some q) < 32 by show (0 : Int) ≤ (q : Int) ∧ (q : Int) < 32; omega), show (oI (some q)).toNat = q from rfl, Int.toNat_natCast, d7, d6]
      by_cases z : gi G 7 p ≤ gi G 6 q
      · rw [if_pos z, if_pos z]; rfl
      · rw [if_neg z, if_neg z]; rfl
    · intro k h1 h7
      have w5 : wr (if gi G 7 p ≤ gi G 6 q then 0 else dv (gi G 7 p - gi G 6 q) 360) = if gi G 7 p ≤ gi G 6 q then 0 else dv (gi G 7 p - gi G 6 q) 360 := by split; exact wr_zero; exact wr_dv _ _
      have o9 : ∀ k, k ≤ 6 → gi G9 122 k = gi G7 122 k := fun k hk => by rw [hG9, gi_si, if_neg (by omega)]; exact s2.1 122 k (by omega)
      have h : k = 1 ∨ k = 2 ∨ k = 3 ∨ k = 4 ∨ k = 5 ∨ k = 6 ∨ k = 7 := by omega
      rcases h with rfl | rfl | rfl | rfl | rfl | rfl | rfl
      · rw [gi_si, if_neg (by omega), o9 1 (by decide), o7 1 (by decide)]; exact v1
      · rw [gi_si, if_neg (by omega), o9 2 (by decide), o7 2 (by decide)]; exact v2
      · rw [gi_si, if_neg (by omega), o9 3 (by decide), o7 3 (by decide)]; exact v3
      · rw [gi_si, if_neg (by omega), o9 4 (by decide), o7 4 (by decide)]; exact v4
      · rw [gi_si, if_pos ⟨rfl, rfl⟩]; exact w5
      · rw [gi_si, if_neg (by omega), o9 6 (by decide)]; exact v6
      · rw [gi_si, if_neg (by omega), hG9, gi_si, if_pos ⟨rfl, rfl⟩]; rfl
/-! who inherits -/
theorem ev_lt {F : Fam} {p q : Nat} {G1 : GS} (h : EvM G1 (ev F q 0 (tps F p))) : (ev F q 0 (tps F p)).1 < 9223372036854775808 := by
  have h2 := wl_gl G1 81 61
  rw [h.1] at h2
  have := Int64.toInt_lt (Int64.ofInt ((ev F q 0 (tps F p)).1 : Int))
  have h3 : (Int64.ofInt ((ev F q 0 (tps F p)).1 : Int)).toInt = ((ev F q 0 (tps F p)).1 : Int) := h2
  omega
theorem heir_M {G : GS} {F : Fam} {p l r : Nat} (hA : Asked G F p l r) (q : Nat) : ∃ G1, f_Model_isHeir G p l q = some (if 0 < (ev F q 0 (tps F p)).1 then 1 else 0, G1) ∧ Mq G G1 ∧ EvM G1 (ev F q 0 (tps F p)) := by
  obtain ⟨G1, r1, r2, r3⟩ := partM (q := q) (way := 0) hA (by decide)
  have hz := lc_z (ev_lt r3)
  refine ⟨G1, ?_, r2, r3⟩
  rw [← r3.1] at hz
  simp only [f_Model_isHeir, r1, Option.bind_some, hz]
  by_cases d : 0 < (ev F q 0 (tps F p)).1
  · rw [if_neg (show ¬ (ev F q 0 (tps F p)).1 = 0 by omega), if_neg (by decide), if_pos d]
  · rw [if_pos (show (ev F q 0 (tps F p)).1 = 0 by omega), if_pos (by decide), if_neg d]
theorem heir_C {G : GS} {F : Fam} {p q : Nat} (hL : LayE G F p) (hq : q < 32) (hqN : q < F.2.2.2) : bAnd (gi G 31 32) (bShl 1 (q : Int)) = 0 ↔ ¬ 0 < (ev F q 0 (tps F p)).1 := by
  rw [and_bit hq, hL.2.2 q hq, decide_eq_true hqN, Bool.true_and, decide_eq_false_iff_not]
