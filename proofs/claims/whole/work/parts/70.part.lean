/-! the parts, as the class reckons them -/
def PrtC (G : GS) (v : Nat → Nat × Nat) (c : Nat) : Prop := gl G 33 c = ((v c).1 : Int) ∧ gl G 34 c = ((v c).2 : Int)
theorem wl_nat {n : Nat} (h : n < 9223372036854775808) : wl (n : Int) = n := wl_of (by omega) (by omega)
theorem cF_0 {S : Nat → Bool} {v : Nat → Nat × Nat} : ∀ n, fb_ct S n = 0 → cF S v n = (0, 1) ∧ mF S v n = (0, 1) := by
  intro n
  induction n with
  | zero => intro _; exact ⟨rfl, rfl⟩
  | succ n ih =>
    intro h
    rw [fb_ct_succ] at h
    by_cases c : S n = true
    · rw [if_pos c] at h; omega
    · rw [if_neg c] at h
      rw [cF, mF, if_neg c, if_neg (fun z => c z.1)]
      exact ih h
theorem SbK_ct {S : Int} {f : Nat → Bool} {N : Nat} (hN : N ≤ 32) (h : SbK S f N) : fb_ct (tb S) 32 = fb_ct f N := by
  have e1 : fb_ct (tb S) N = fb_ct f N := fb_ct_cong (fun k hk => by rw [h.2 k (by omega), decide_eq_true hk, Bool.true_and])
  have e2 := ct_split (tb S) N (32 - N)
  rw [show N + (32 - N) = 32 by omega] at e2
  have e3 : fb_ct (fun k => tb S (N + k)) (32 - N) = 0 := by
    have : ∀ m, m ≤ 32 - N → fb_ct (fun k => tb S (N + k)) m = 0 := by
      intro m
      induction m with
      | zero => intro _; rfl
      | succ m ih =>
        intro hm
        rw [fb_ct_succ, ih (by omega), h.2 (N + m) (by omega), decide_eq_false (show ¬ N + m < N by omega), Bool.false_and]
        rfl
    exact this _ (Nat.le_refl _)
  omega
theorem isL_eq {G : GS} {v : Nat → Nat × Nat} {a b : Nat} (ha : a < 33) (hb : b < 33) (pa : PrtC G v a) (pb : PrtC G v b) (ga : Gd (v a)) (gb : Gd (v b)) (ho : (v a).2 * (v b).2 < 9223372036854775808) : f_Descent_isLess G a b = some (if less (v a) (v b) = true then 1 else 0) := by
  have a0 := ga.1.1
  have b0 := gb.1.1
  have la : (v a).2 ≤ (v a).2 * (v b).2 := Nat.le_mul_of_pos_right _ b0
  have lb : (v b).2 ≤ (v a).2 * (v b).2 := Nat.le_mul_of_pos_left _ a0
  have hc := ccom (G := G) (v := (v a).2) (w := (v b).2) (by omega) (by omega) b0
  obtain ⟨g, s, t, hg, hs, ht, hgd, e1, e2, e3, e4, -, -⟩ := frC_s (x := v a) (y := v b) a0 b0
  rw [← hgd] at hc e3 e4
  have hgl : g ≤ (v a).2 := by rw [e1]; exact Nat.le_mul_of_pos_right _ hs
  have q1 := ldv_nat (x := (v b).2) (y := g) (by omega) hg (by omega)
  have q2 := ldv_nat (x := (v a).2) (y := g) (by omega) hg (by omega)
  rw [e4] at q1
  rw [e3] at q2
  have m1 : (v a).1 * t ≤ (v a).2 * (v b).2 := Nat.mul_le_mul ga.2 (by rw [e2]; exact Nat.le_mul_of_pos_left _ hg)
  have m2 : (v b).1 * s ≤ (v a).2 * (v b).2 := by rw [Nat.mul_comm (v a).2]; exact Nat.mul_le_mul gb.2 (by rw [e1]; exact Nat.le_mul_of_pos_left _ hg)
  have w1 : ((v a).1 : Int) * (t : Int) = (((v a).1 * t : Nat) : Int) := rfl
  have w2 : ((v b).1 : Int) * (s : Int) = (((v b).1 * s : Nat) : Int) := rfl
  have hl : less (v a) (v b) = true ↔ (v a).1 * t < (v b).1 * s := by
    unfold less
    rw [decide_eq_true_iff, e1, e2]
    have x1 : (v a).1 * (g * t) = (v a).1 * t * g := by grind
    have x2 : (v b).1 * (g * s) = (v b).1 * s * g := by grind
    rw [x1, x2]
    exact ⟨fun h => Nat.lt_of_mul_lt_mul_right h, fun h => Nat.mul_lt_mul_of_pos_right h hg⟩
  simp only [f_Descent_isLess, gd, if_pos (show (0 : Int) ≤ (a : Int) ∧ (a : Int) < 33 by omega), if_pos (show (0 : Int) ≤ (b : Int) ∧ (b : Int) < 33 by omega), Int.toNat_natCast, pa.1, pa.2, pb.1, pb.2, hc, Option.bind_some, if_pos (show ¬ (g : Int) = 0 by omega), q1, q2, w1, w2]
  have hlc := lc_spec (x := (((v a).1 * t : Nat) : Int)) (y := (((v b).1 * s : Nat) : Int)) (wl_of (by omega) (by omega)) (wl_of (by omega) (by omega))
  by_cases c1 : (v a).1 * t < (v b).1 * s
  · rw [if_neg (show ¬ (((v b).1 * s : Nat) : Int) < (((v a).1 * t : Nat) : Int) by omega), if_neg (show ¬ (((v a).1 * t : Nat) : Int) = (((v b).1 * s : Nat) : Int) by omega)] at hlc
    rw [hlc, if_pos (hl.mpr c1), if_neg (by decide)]
  · rw [if_neg (fun z => c1 (hl.mp z))]
    by_cases c2 : (v b).1 * s < (v a).1 * t
    · rw [if_pos (show (((v b).1 * s : Nat) : Int) < (((v a).1 * t : Nat) : Int) by omega)] at hlc
      rw [hlc, if_pos (by decide)]
    · rw [if_neg (show ¬ (((v b).1 * s : Nat) : Int) < (((v a).1 * t : Nat) : Int) by omega), if_pos (show (((v a).1 * t : Nat) : Int) = (((v b).1 * s : Nat) : Int) by omega)] at hlc
      rw [hlc, if_pos (by decide)]
theorem mayC_L {G : GS} {F : Fam} (hF : FOK F) (hC : FC G F) {S : Int} {f : Nat → Bool} (hS : SbK S f F.2.2.2) {way : Int} (hw0 : way ≠ 0) {i : Nat} (hi : i < F.2.2.2) : ∀ (n o : Nat), o ≤ F.2.2.2 → F.2.2.2 - o < n → (∀ j, j < o → f j = true → j ≠ i → cnd F way i j = true) → f_Descent_mayBeChosen_L2 G n i S o = some (if may F way f i = true then 1 else 0) := by
  have hN := hF.1
  intro n
  induction n with
  | zero => intro o q1 q2; omega
  | succ n ih =>
    intro o q1 q2 hpre
    by_cases c1 : (F.2.2.2 : Int) ≤ o
    · have : o = F.2.2.2 := by omega
      subst this
      rw [if_pos (may_of hpre)]
      simp only [f_Descent_mayBeChosen_L2, hC.1, if_pos c1]
    · have hw : wr ((o : Int) + 1) = ((o + 1 : Nat) : Int) := by rw [wr_of (by omega) (by omega)]; omega
      have hb := S_bit hS (show o < F.2.2.2 by omega) hN
      have go : (f o = true → o ≠ i → cnd F way i o = true) → f_Descent_mayBeChosen_L2 G n i S ((o + 1 : Nat) : Int) = some (if may F way f i = true then 1 else 0) := fun h => ih (o + 1) (by omega) (by omega) (fun j hj hs hne => by
        by_cases z : j = o
        · rw [z] at hs hne ⊢; exact h hs hne
        · exact hpre j (by omega) hs hne)
      by_cases d : f o = true
      · have hnb : ¬ bAnd S (bShl 1 (o : Int)) = 0 := fun z => by rw [hb, d] at z; cases z
        by_cases e : o = i
        · subst e
          simp only [f_Descent_mayBeChosen_L2, hC.1, if_neg c1, if_neg hnb, if_true, f_Descent_mayBeChosen_L97, hw]
          exact go (fun _ z => absurd rfl z)
        · have g1 : (0 : Int) ≤ (i : Int) ∧ (i : Int) < 32 := by omega
          have g2 : (0 : Int) ≤ (o : Int) ∧ (o : Int) < 32 := by omega
          have x5i := hC.2.1 5 i (by decide) (by decide)
          have x6i := hC.2.1 6 i (by decide) (by decide)
          have x5o := hC.2.1 5 o (by decide) (by decide)
          have x6o := hC.2.1 6 o (by decide) (by decide)
          have no : cnd F way i o = false → (some 0 : Option Int) = some (if may F way f i = true then 1 else 0) := fun h => by
            rw [if_neg]
            intro y
            have := may_in y (show o < F.2.2.2 by omega) d e
            rw [h] at this; cases this
          by_cases k : F.2.2.1 = 0
          · by_cases k2 : F.1 6 o < F.1 5 i
            · simp only [f_Descent_mayBeChosen_L2, hC.1, if_neg c1, if_neg hnb, if_neg (show ¬ (o : Int) = (i : Int) by omega), hC.2.2.2, if_pos k, gd, if_pos g1, if_pos g2, Int.toNat_natCast, x5i, x6o, if_pos k2, f_Descent_mayBeChosen_L88, if_true]
              refine no ?_
              unfold cnd
              rw [if_neg hw0, if_pos k, decide_eq_false (by omega)]
            · simp only [f_Descent_mayBeChosen_L2, hC.1, if_neg c1, if_neg hnb, if_neg (show ¬ (o : Int) = (i : Int) by omega), hC.2.2.2, if_pos k, gd, if_pos g1, if_pos g2, Int.toNat_natCast, x5i, x6o, if_neg k2, f_Descent_mayBeChosen_L88, if_neg (show ¬ (1 : Int) = 0 by decide), f_Descent_mayBeChosen_L97, hw]
              refine go (fun _ _ => ?_)
              unfold cnd
              rw [if_neg hw0, if_pos k, decide_eq_true (by omega)]
          · by_cases k2 : F.1 6 i < F.1 5 o
            · simp only [f_Descent_mayBeChosen_L2, hC.1, if_neg c1, if_neg hnb, if_neg (show ¬ (o : Int) = (i : Int) by omega), hC.2.2.2, if_neg k, gd, if_pos g1, if_pos g2, Int.toNat_natCast, x6i, x5o, if_pos k2, f_Descent_mayBeChosen_L88, if_true]
              refine no ?_
              unfold cnd
              rw [if_neg hw0, if_neg k, decide_eq_false (by omega)]
            · simp only [f_Descent_mayBeChosen_L2, hC.1, if_neg c1, if_neg hnb, if_neg (show ¬ (o : Int) = (i : Int) by omega), hC.2.2.2, if_neg k, gd, if_pos g1, if_pos g2, Int.toNat_natCast, x6i, x5o, if_neg k2, f_Descent_mayBeChosen_L88, if_neg (show ¬ (1 : Int) = 0 by decide), f_Descent_mayBeChosen_L97, hw]
              refine go (fun _ _ => ?_)
              unfold cnd
              rw [if_neg hw0, if_neg k, decide_eq_true (by omega)]
      · have df : f o = false := by cases z : f o <;> simp_all
        simp only [f_Descent_mayBeChosen_L2, hC.1, if_neg c1, if_pos (hb.mpr df), f_Descent_mayBeChosen_L97, hw]
        exact go (fun z => absurd z d)
theorem bnd_L {G : GS} {F : Fam} (hF : FOK F) (hC : FC G F) {p : Nat} {but : Int} {S : Int} (hS : SbK S (stk F p but) F.2.2.2) {way : Int} (hw0 : way ≠ 0) {v : Nat → Nat × Nat} (hv : ∀ c, p < c → c < F.2.2.2 → PrtC G v c ∧ Gd (v c)) (hB : ∀ i, i ≤ F.2.2.2 → Bd F v i) : ∀ (n i : Nat), i ≤ F.2.2.2 → F.2.2.2 - i < n → f_Descent_boundary_L5 G n S way (oI (pk F way (stk F p but) v i)) i = some (max 0 (oI (pk F way (stk F p but) v F.2.2.2))) := by
  have hN := hF.1
  intro n
  induction n with
  | zero => intro i q1 q2; omega
  | succ n ih =>
    intro i q1 q2
    by_cases c1 : (F.2.2.2 : Int) ≤ i
    · have : i = F.2.2.2 := by omega
      subst this
      simp only [f_Descent_boundary_L5, hC.1, if_pos c1]
    · have hw : wr ((i : Int) + 1) = ((i + 1 : Nat) : Int) := by rw [wr_of (by omega) (by omega)]; omega
      have hiN : i < F.2.2.2 := by omega
      have hb := S_bit hS hiN hN
      have ih' := ih (i + 1) (by omega) (by omega)
      rw [pk] at ih'
      by_cases d : stk F p but i = true
      · have hnb : ¬ bAnd S (bShl 1 (i : Int)) = 0 := fun z => by rw [hb, d] at z; cases z
        have hm : f_Descent_mayBeChosen G i S = some (if may F way (stk F p but) i = true then 1 else 0) := mayC_L hF hC hS hw0 hiN FU 0 (by omega) (by unfold FU; omega) (fun j hj => by omega)
        by_cases e : may F way (stk F p but) i = true
        · rw [if_pos e] at hm
          rw [if_pos (by rw [d, e]; rfl)] at ih'
          cases hp : pk F way (stk F p but) v i with
          | none =>
            rw [hp] at ih'
            simp only [f_Descent_boundary_L5, hC.1, if_neg c1, if_neg hnb, hm, Option.bind_some, if_neg (show ¬ (1 : Int) = 0 by decide), oI, if_true, f_Descent_boundary_L69, f_Descent_boundary_L74, f_Descent_boundary_L87, f_Descent_boundary_L88, hw]
            exact ih'
          | some g =>
            have hg := pkB_in i hp
            have hgp := (stk_gt hg.2.1).1
            have vi := hv i (stk_gt d).1 hiN
            have vg := hv g hgp (by omega)
            rw [hp] at ih'
            unfold pkS at ih'
            simp only at ih'
            have hne : ¬ (g : Int) = -1 := by omega
            by_cases w2 : way = 2
            · rw [if_pos w2] at ih'
              have hl := isL_eq (a := g) (b := i) (by omega) (by omega) vg.1 vi.1 vg.2 vi.2 (no_over2 hF hB (by omega) hg.1 hiN)
              by_cases k : less (v g) (v i) = true
              · rw [if_pos k] at ih' hl
                simp only [f_Descent_boundary_L5, hC.1, if_neg c1, if_neg hnb, hm, Option.bind_some, if_neg (show ¬ (1 : Int) = 0 by decide), oI, if_neg hne, if_pos w2, hl, f_Descent_boundary_L69, f_Descent_boundary_L74, f_Descent_boundary_L87, f_Descent_boundary_L88, hw]
                exact ih'
              · rw [if_neg k] at ih' hl
                simp only [f_Descent_boundary_L5, hC.1, if_neg c1, if_neg hnb, hm, Option.bind_some, if_neg (show ¬ (1 : Int) = 0 by decide), oI, if_neg hne, if_pos w2, hl, if_true, f_Descent_boundary_L73, f_Descent_boundary_L74, f_Descent_boundary_L87, f_Descent_boundary_L88, hw]
                exact ih'
            · rw [if_neg w2] at ih'
              have hl := isL_eq (a := i) (b := g) (by omega) (by omega) vi.1 vg.1 vi.2 vg.2 (by rw [Nat.mul_comm]; exact no_over2 hF hB (by omega) hg.1 hiN)
              by_cases k : less (v i) (v g) = true
              · rw [if_pos k] at ih' hl
                simp only [f_Descent_boundary_L5, hC.1, if_neg c1, if_neg hnb, hm, Option.bind_some, if_neg (show ¬ (1 : Int) = 0 by decide), oI, if_neg hne, if_neg w2, hl, f_Descent_boundary_L69, f_Descent_boundary_L74, f_Descent_boundary_L87, f_Descent_boundary_L88, hw]
                exact ih'
              · rw [if_neg k] at ih' hl
                simp only [f_Descent_boundary_L5, hC.1, if_neg c1, if_neg hnb, hm, Option.bind_some, if_neg (show ¬ (1 : Int) = 0 by decide), oI, if_neg hne, if_neg w2, hl, if_true, f_Descent_boundary_L73, f_Descent_boundary_L74, f_Descent_boundary_L87, f_Descent_boundary_L88, hw]
                exact ih'
        · rw [if_neg e] at hm
          rw [if_neg (fun z => e (Bool.and_eq_true_iff.mp z).2)] at ih'
          simp only [f_Descent_boundary_L5, hC.1, if_neg c1, if_neg hnb, hm, Option.bind_some, if_true, f_Descent_boundary_L88, hw]
          exact ih'
      · have df : stk F p but i = false := by cases z : stk F p but i <;> simp_all
        rw [if_neg (fun z => d (Bool.and_eq_true_iff.mp z).1)] at ih'
        simp only [f_Descent_boundary_L5, hC.1, if_neg c1, if_pos (hb.mpr df), f_Descent_boundary_L88, hw]
        exact ih'
/-- only the longs of one row are written -/
def Lf (x : Nat) (G G' : GS) : Prop := (∀ c k, gi G' c k = gi G c k) ∧ (∀ c k, gp G' c k = gp G c k) ∧ ∀ c k, ¬ ((c = 33 ∨ c = 34) ∧ k = x) → gl G' c k = gl G c k
theorem Lf_sl {x c : Nat} {G : GS} {v : Int} (hc : c = 33 ∨ c = 34) : Lf x G (sl G c x v) := ⟨fun _ _ => rfl, fun _ _ => rfl, fun c' k z => by rw [gl_sl, if_neg (by omega)]⟩
theorem Lf.trans {x : Nat} {A B C : GS} (h1 : Lf x A B) (h2 : Lf x B C) : Lf x A C := ⟨fun c k => (h2.1 c k).trans (h1.1 c k), fun c k => (h2.2.1 c k).trans (h1.2.1 c k), fun c k z => (h2.2.2 c k z).trans (h1.2.2 c k z)⟩
theorem add_L {F : Fam} (hF : FOK F) {p x : Nat} (hx : x < 33) (hxp : x ≤ p ∨ 32 ≤ x) {but : Int} {S : Int} (hS : SbK S (stk F p but) F.2.2.2) {v : Nat → Nat × Nat} (hg : ∀ c, p < c → c < F.2.2.2 → Gd (v c)) (hB : ∀ i, i ≤ F.2.2.2 → Bd F v i) (hp : p < F.2.2.2) (hne : anyB (stk F p but) F.2.2.2 = true) : ∀ (n : Nat) (G : GS) (i : Nat), i ≤ F.2.2.2 → F.2.2.2 - i < n → FC G F → (∀ c, p < c → c < F.2.2.2 → PrtC G v c) → gl G 33 x = ((cF (stk F p but) v i).1 : Int) → gl G 34 x = ((cF (stk F p but) v i).2 : Int) → ∃ G1, f_Descent_addParts_L2 n G x S i = some G1 ∧ Lf x G G1 ∧ gl G1 33 x = ((fin (cF (stk F p but) v F.2.2.2) (fb_ct (stk F p but) F.2.2.2)).1 : Int) ∧ gl G1 34 x = ((fin (cF (stk F p but) v F.2.2.2) (fb_ct (stk F p but) F.2.2.2)).2 : Int) := by
  have hN := hF.1
  have hgS : ∀ m, m ≤ F.2.2.2 → ∀ i, i < m → stk F p but i = true → Gd (v i) := fun m hm i hi hs => hg i (stk_gt hs).1 (by omega)
  intro n
  induction n with
  | zero => intro G i q1 q2; omega
  | succ n ih =>
    intro G i q1 q2 hC hv h33 h34
    obtain ⟨a1, a2, a3, -⟩ := cF_g (v := v) i (hgS i q1)
    have hdv : ∀ M, (∀ j, p < j → j < F.2.2.2 → (v j).2 ∣ M) → (cF (stk F p but) v i).2 ∣ M := fun M hM => a3 M (fun j hj hs => hM j (stk_gt hs).1 (by omega))
    have gx : (0 : Int) ≤ (x : Int) ∧ (x : Int) < 33 := by omega
    by_cases c1 : (F.2.2.2 : Int) ≤ i
    · have : i = F.2.2.2 := by omega
      subst this
      have hk := ct_pos (anyB_t.mp hne)
      have hkl := fb_ct_le (stk F p but) F.2.2.2
      have hb1 := no_over1 hF hB hp hdv
      have hbc := bitc_all G S
      rw [SbK_ct hN hS] at hbc
      generalize fb_ct (stk F p but) F.2.2.2 = k at *
      clear ih
      generalize cF (stk F p but) v F.2.2.2 = y at *
      have b2 : y.2 * k ≤ 3486784401 * 32 := Nat.mul_le_mul hb1 (by omega)
      have b3 : y.1 ≤ y.2 * k := by rw [Nat.mul_comm]; exact a2
      have b4 : 0 < y.2 * k := Nat.mul_pos a1 hk
      have w0 : (y.2 : Int) * (k : Int) = ((y.2 * k : Nat) : Int) := rfl
      have hcm := ccom (G := sl G 34 x ((y.2 * k : Nat) : Int)) (v := y.1) (w := y.2 * k) (by omega) (by omega) b4
      have hg0 := Nat.gcd_pos_of_pos_right y.1 b4
      have hgl : Nat.gcd y.1 (y.2 * k) ≤ y.2 * k := Nat.le_of_dvd b4 (Nat.gcd_dvd_right _ _)
      have l1 := ldv_nat (x := y.1) (y := Nat.gcd y.1 (y.2 * k)) (by omega) hg0 (by omega)
      have l2 := ldv_nat (x := y.2 * k) (y := Nat.gcd y.1 (y.2 * k)) (by omega) hg0 (by omega)
      have d1 : y.1 / Nat.gcd y.1 (y.2 * k) ≤ y.1 := Nat.div_le_self _ _
      have d2 : y.2 * k / Nat.gcd y.1 (y.2 * k) ≤ y.2 * k := Nat.div_le_self _ _
      have u1 : gl (sl G 34 x ((y.2 * k : Nat) : Int)) 34 x = ((y.2 * k : Nat) : Int) := by rw [gl_sl, if_pos ⟨rfl, rfl⟩]; exact wl_of (by omega) (by omega)
      have u2 : gl (sl G 34 x ((y.2 * k : Nat) : Int)) 33 x = (y.1 : Int) := by rw [gl_sl, if_neg (by omega)]; exact h33
      have u3 : ∀ A, gl (sl (sl G 34 x ((y.2 * k : Nat) : Int)) 33 x A) 34 x = ((y.2 * k : Nat) : Int) := fun A => by rw [gl_sl, if_neg (by omega)]; exact u1
      refine ⟨sl (sl (sl G 34 x ((y.2 * k : Nat) : Int)) 33 x ((y.1 / Nat.gcd y.1 (y.2 * k) : Nat) : Int)) 34 x ((y.2 * k / Nat.gcd y.1 (y.2 * k) : Nat) : Int), ?_, (Lf_sl (Or.inr rfl)).trans ((Lf_sl (Or.inl rfl)).trans (Lf_sl (Or.inr rfl))), ?_, ?_⟩
      · simp only [f_Descent_addParts_L2, hC.1, if_pos c1, gd, if_pos gx, hbc, Option.bind_some, wG, Int.toNat_natCast, h34, w0, u1, u2, hcm, if_pos (show ¬ ((Nat.gcd y.1 (y.2 * k) : Nat) : Int) = 0 by omega), l1, u3, l2]
      · rw [gl_sl, if_neg (by omega), gl_sl, if_pos ⟨rfl, rfl⟩]
        exact wl_nat (by omega)
      · rw [gl_sl, if_pos ⟨rfl, rfl⟩]
        exact wl_nat (by omega)
    · have hw : wr ((i : Int) + 1) = ((i + 1 : Nat) : Int) := by rw [wr_of (by omega) (by omega)]; omega
      have hiN : i < F.2.2.2 := by omega
      have hb := S_bit hS hiN hN
      have ih' := fun G' => ih G' (i + 1) (by omega) (by omega)
      rw [cF] at ih'
      by_cases d : stk F p but i = true
      · have hnb : ¬ bAnd S (bShl 1 (i : Int)) = 0 := fun z => by rw [hb, d] at z; cases z
        have hpi := (stk_gt d).1
        have pv := hv i hpi hiN
        have gv := hg i hpi hiN
        have gi0 : (0 : Int) ≤ (i : Int) ∧ (i : Int) < 33 := by omega
        obtain ⟨M2, m1, m2, m3⟩ := hB i (by omega)
        have hvl : (v i).2 < 9223372036854775808 := by
          have t2 := tt_le hF i
          exact Nat.lt_of_le_of_lt (Nat.le_of_dvd m1 (m3 i (Nat.le_refl _) hiN)) (cube_lt m2 (by omega))
        have hz := lc_z (x := (v i).1) (by have := gv.2; omega)
        by_cases e : (v i).1 = 0
        · rw [if_neg (fun z => z.2 e)] at ih'
          rw [if_pos e] at hz
          simp only [f_Descent_addParts_L2, hC.1, if_neg c1, if_neg hnb, gd, if_pos gi0, Int.toNat_natCast, pv.1, hz, if_true, f_Descent_addParts_L110, hw]
          exact ih' G hC hv h33 h34
        · rw [if_pos ⟨d, e⟩] at ih'
          rw [if_neg e] at hz
          have ho := no_over hF hB hiN d hdv (fun z => by rw [(cF_0 i z).1])
          have fb := frC_b (x := cF (stk F p but) v i) (y := v i) a1 gv.1.1 a2 gv.2
          obtain ⟨g, s, t, hg0, hs, ht, hgd, e1, e2, e3, e4, e5, -⟩ := frC_s (x := cF (stk F p but) v i) (y := v i) a1 gv.1.1
          clear ih
          generalize cF (stk F p but) v i = y at *
          generalize fb_ct (stk F p but) i = k at *
          have z1 : (k + 1) * (y.2 * (v i).2) = k * (y.2 * (v i).2) + y.2 * (v i).2 := Nat.succ_mul _ _
          rw [e4] at fb
          rw [e3] at fb
          have f1 := fb.2.2.1
          have f2 := fb.2.2.2
          have yl : y.2 ≤ y.2 * (v i).2 := Nat.le_mul_of_pos_right _ gv.1.1
          have hcm := ccom (G := G) (v := y.2) (w := (v i).2) (by omega) hvl gv.1.1
          rw [← hgd] at hcm e3 e4
          have hgl : g ≤ y.2 := by rw [e1]; exact Nat.le_mul_of_pos_right _ hs
          have l1 := ldv_nat (x := (v i).2) (y := g) hvl hg0 (by omega)
          have l2 := ldv_nat (x := y.2) (y := g) (by omega) hg0 (by omega)
          rw [e4] at l1
          rw [e3] at l2
          have w1 : (y.1 : Int) * (t : Int) + ((v i).1 : Int) * (s : Int) = ((y.1 * t + (v i).1 * s : Nat) : Int) := rfl
          have w2 : (s : Int) * ((v i).2 : Int) = ((s * (v i).2 : Nat) : Int) := rfl
          have hsb : s * (v i).2 ≤ y.2 * (v i).2 := Nat.mul_le_mul_right _ (by rw [e1]; exact Nat.le_mul_of_pos_left _ hg0)
          have xi : ¬ i = x := by omega
          have u1 : gl (sl G 33 x ((y.1 * t + (v i).1 * s : Nat) : Int)) 34 x = (y.2 : Int) := by rw [gl_sl, if_neg (by omega)]; exact h34
          have u2 : gl (sl G 33 x ((y.1 * t + (v i).1 * s : Nat) : Int)) 34 i = ((v i).2 : Int) := by rw [gl_sl, if_neg (by omega)]; exact pv.2
          have e9 : f_Descent_addParts_L2 (n + 1) G x S i = f_Descent_addParts_L2 n (sl (sl G 33 x ((y.1 * t + (v i).1 * s : Nat) : Int)) 34 x ((s * (v i).2 : Nat) : Int)) x S ((i + 1 : Nat) : Int) := by
            simp only [f_Descent_addParts_L2, hC.1, if_neg c1, if_neg hnb, gd, if_pos gi0, if_pos gx, Int.toNat_natCast, pv.1, pv.2, hz, if_neg (show ¬ (1 : Int) = 0 by decide), h33, h34, hcm, Option.bind_some, if_pos (show ¬ (g : Int) = 0 by omega), l1, l2, w1, wG, u1, u2, w2, f_Descent_addParts_L110, hw]
          rw [e9]
          have hLf : Lf x G (sl (sl G 33 x ((y.1 * t + (v i).1 * s : Nat) : Int)) 34 x ((s * (v i).2 : Nat) : Int)) := (Lf_sl (Or.inl rfl)).trans (Lf_sl (Or.inr rfl))
          have n33 : gl (sl (sl G 33 x ((y.1 * t + (v i).1 * s : Nat) : Int)) 34 x ((s * (v i).2 : Nat) : Int)) 33 x = ((y.1 * t + (v i).1 * s : Nat) : Int) := by
            rw [gl_sl, if_neg (by omega), gl_sl, if_pos ⟨rfl, rfl⟩]; exact wl_of (by omega) (by omega)
          have n34 : gl (sl (sl G 33 x ((y.1 * t + (v i).1 * s : Nat) : Int)) 34 x ((s * (v i).2 : Nat) : Int)) 34 x = ((s * (v i).2 : Nat) : Int) := by
            rw [gl_sl, if_pos ⟨rfl, rfl⟩]; exact wl_of (by omega) (by omega)
          generalize sl (sl G 33 x ((y.1 * t + (v i).1 * s : Nat) : Int)) 34 x ((s * (v i).2 : Nat) : Int) = G' at *
          obtain ⟨G1, r1, r2, r3⟩ := ih' G' (FC_fr (fun c k _ _ _ => hLf.1 c k) hC) (fun c x1 x2 => ⟨by rw [hLf.2.2 33 c (by omega)]; exact (hv c x1 x2).1, by rw [hLf.2.2 34 c (by omega)]; exact (hv c x1 x2).2⟩) (by rw [n33, e5]) (by rw [n34, e5])
          exact ⟨G1, r1, hLf.trans r2, r3⟩
      · have df : stk F p but i = false := by cases z : stk F p but i <;> simp_all
        rw [if_neg (fun z => d z.1)] at ih'
        simp only [f_Descent_addParts_L2, hC.1, if_neg c1, if_pos (hb.mpr df), f_Descent_addParts_L110, hw]
        exact ih' G hC hv h33 h34
