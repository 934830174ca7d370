/-! the lines and the parts, as the reference reckons them -/
def FMo (G : GS) (F : Fam) (way : Int) : Prop := gi G 81 1 = F.2.2.2 ∧ (∀ c k, 2 ≤ c → c ≤ 7 → gi G (c + 80) k = F.1 c k) ∧ gi G 81 55 = F.2.1 ∧ gi G 81 56 = F.2.2.1 ∧ gi G 81 57 = way
theorem FMo_fr {G G' : GS} {F : Fam} {way : Int} (hi : ∀ c k, c ≠ 119 → gi G' c k = gi G c k) (h : FMo G F way) : FMo G' F way :=
  ⟨by rw [hi 81 1 (by decide)]; exact h.1, fun c k a b => by rw [hi (c + 80) k (by omega)]; exact h.2.1 c k a b, by rw [hi 81 55 (by decide)]; exact h.2.2.1, by rw [hi 81 56 (by decide)]; exact h.2.2.2.1, by rw [hi 81 57 (by decide)]; exact h.2.2.2.2⟩
def HlM (G : GS) (F : Fam) (c : Nat) : Prop := gi G 119 c = if hl F c = true then 1 else 0
def PrtM (G : GS) (v : Nat → Nat × Nat) (c : Nat) : Prop := gl G 120 c = ((v c).1 : Int) ∧ gl G 121 c = ((v c).2 : Int)
theorem child_M {G : GS} {F : Fam} {way : Int} (hF : FOK F) (hM : FMo G F way) {c p : Nat} (hc : c < F.2.2.2) : f_Model_isChild G c p = some (if chl F c p = true then 1 else 0) := by
  have hN := hF.1
  have g1 : (0 : Int) ≤ (c : Int) ∧ (c : Int) < 32 := by omega
  have e3 := hM.2.1 3 c (by decide) (by decide)
  have e4 := hM.2.1 4 c (by decide) (by decide)
  have e5 := hM.2.1 5 c (by decide) (by decide)
  simp only [Nat.reduceAdd] at e3 e4 e5
  have h20 : f_Model_isChild_L20 G c = some (if F.1 5 c ≤ F.2.1 then 1 else 0) := by
    simp only [f_Model_isChild_L20, gd, if_pos g1, Int.toNat_natCast, hM.2.2.1, e5]
    by_cases z : F.2.1 < F.1 5 c
    · rw [if_pos z, if_neg (by omega)]
    · rw [if_neg z, if_pos (by omega)]
  simp only [f_Model_isChild, gd, if_pos g1, Int.toNat_natCast, e3, e4, h20]
  unfold chl
  simp only [decide_eq_true_eq]
  by_cases a : F.1 3 c = (p : Int)
  · rw [if_pos a]
    by_cases b : F.1 5 c ≤ F.2.1
    · rw [if_pos b, if_pos ⟨Or.inl a, b⟩]
    · rw [if_neg b, if_neg (fun z => b z.2)]
  · rw [if_neg a]
    by_cases a2 : F.1 4 c = (p : Int)
    · rw [if_pos a2]
      by_cases b : F.1 5 c ≤ F.2.1
      · rw [if_pos b, if_pos ⟨Or.inr a2, b⟩]
      · rw [if_neg b, if_neg (fun z => b z.2)]
    · rw [if_neg a2, if_neg (fun z => by rcases z.1 with y | y <;> omega)]
theorem one_M {G : GS} {F : Fam} {way : Int} (hF : FOK F) (hM : FMo G F way) {c p : Nat} {but s : Int} (hpc : p < c) (hc : c < F.2.2.2) (hh : HlM G F c) : f_Model_isOne G c p but s = some (if kid F p but c = true ∧ F.1 2 c = s then 1 else 0) := by
  have hN := hF.1
  have g1 : (0 : Int) ≤ (c : Int) ∧ (c : Int) < 32 := by omega
  have e2 := hM.2.1 2 c (by decide) (by decide)
  simp only [Nat.reduceAdd] at e2
  have hk : kid F p but c = true ↔ (c : Int) ≠ but ∧ chl F c p = true ∧ hl F c = true := by
    unfold kid
    simp only [Bool.and_eq_true, decide_eq_true_eq]
    exact ⟨fun z => ⟨z.1.1.2, z.1.2, z.2⟩, fun z => ⟨⟨⟨hpc, z.1⟩, z.2.1⟩, z.2.2⟩⟩
  unfold HlM at hh
  by_cases c1 : (c : Int) = but
  · simp only [f_Model_isOne, if_pos c1]
    rw [if_neg (fun z => (hk.mp z.1).1 c1)]
  · by_cases c2 : F.1 2 c = s
    · simp only [f_Model_isOne, if_neg c1, gd, if_pos g1, Int.toNat_natCast, e2, if_pos c2, child_M hF hM hc, Option.bind_some, ite01, hh]
      by_cases c3 : chl F c p = true
      · rw [if_neg (fun z => z c3)]
        by_cases c4 : hl F c = true
        · rw [if_neg (fun z => z c4), if_pos ⟨hk.mpr ⟨c1, c3, c4⟩, c2⟩]
        · rw [if_pos c4, if_neg (fun z => c4 (hk.mp z.1).2.2)]
      · rw [if_pos c3, if_neg (fun z => c3 (hk.mp z.1).2.1)]
    · simp only [f_Model_isOne, if_neg c1, gd, if_pos g1, Int.toNat_natCast, e2, if_neg c2]
      rw [if_neg (fun z => c2 z.2)]
theorem kid_lo {F : Fam} {p : Nat} {but : Int} {i : Nat} (h : i ≤ p) : kid F p but i = false := by
  unfold kid
  rw [decide_eq_false (show ¬ p < i by omega)]
  simp
theorem hasM_L {G : GS} {F : Fam} {way : Int} (hF : FOK F) (hM : FMo G F way) {p : Nat} {but : Int} (hh : ∀ c, p < c → c < F.2.2.2 → HlM G F c) : ∀ (n c : Nat), p < c → c ≤ F.2.2.2 → F.2.2.2 - c < n → f_Model_hasChildren_L7 G n p but (if anyB (kid F p but) c = true then 1 else 0) c = some (if anyB (kid F p but) F.2.2.2 = true then 1 else 0) := by
  have hN := hF.1
  intro n
  induction n with
  | zero => intro c q1 q2 q3; omega
  | succ n ih =>
    intro c q1 q2 q3
    by_cases c1 : (F.2.2.2 : Int) ≤ c
    · have : c = F.2.2.2 := by omega
      subst this
      simp only [f_Model_hasChildren_L7, hM.1, if_pos c1]
      rw [gd, if_pos (by split <;> simp)]
    · have hw : wr ((c : Int) + 1) = ((c + 1 : Nat) : Int) := by rw [wr_of (by omega) (by omega)]; omega
      have hcN : c < F.2.2.2 := by omega
      have g1 : (0 : Int) ≤ (c : Int) ∧ (c : Int) < 32 := by omega
      have ih' := ih (c + 1) (by omega) (by omega) (by omega)
      rw [anyB] at ih'
      have e2 := hM.2.1 2 c (by decide) (by decide)
      simp only [Nat.reduceAdd] at e2
      by_cases d : anyB (kid F p but) c = true
      · rw [d, Bool.true_or, if_pos rfl] at ih'
        rw [if_pos d]
        simp only [f_Model_hasChildren_L7, hM.1, if_neg c1, if_neg (show ¬ (1 : Int) = 0 by decide), f_Model_hasChildren_L38, f_Model_hasChildren_L43, hw]
        exact ih'
      · have df : anyB (kid F p but) c = false := by cases z : anyB (kid F p but) c <;> simp_all
        rw [df, Bool.false_or] at ih'
        rw [if_neg d]
        have ho := one_M hF hM (but := but) (s := F.1 2 c) q1 hcN (hh c q1 hcN)
        by_cases e : kid F p but c = true
        · rw [if_pos ⟨e, rfl⟩] at ho
          rw [if_pos e] at ih'
          simp only [f_Model_hasChildren_L7, hM.1, if_neg c1, if_true, gd, if_pos g1, Int.toNat_natCast, e2, ho, Option.bind_some, if_neg (show ¬ (1 : Int) = 0 by decide), f_Model_hasChildren_L38, f_Model_hasChildren_L43, hw]
          exact ih'
        · rw [if_neg (fun z => e z.1)] at ho
          rw [if_neg e] at ih'
          simp only [f_Model_hasChildren_L7, hM.1, if_neg c1, if_true, gd, if_pos g1, Int.toNat_natCast, e2, ho, Option.bind_some, f_Model_hasChildren_L43, hw]
          exact ih'
theorem hasM {G : GS} {F : Fam} {way : Int} (hF : FOK F) (hM : FMo G F way) {p : Nat} (hp : p < F.2.2.2) {but : Int} (hh : ∀ c, p < c → c < F.2.2.2 → HlM G F c) : f_Model_hasChildren G p but = some (if anyB (kid F p but) F.2.2.2 = true then 1 else 0) := by
  have hN := hF.1
  have hw : wr ((p : Int) + 1) = ((p + 1 : Nat) : Int) := by rw [wr_of (by omega) (by omega)]; omega
  have h := hasM_L hF hM (but := but) hh FU (p + 1) (by omega) (by omega) (by unfold FU; omega)
  have h0 : anyB (kid F p but) (p + 1) = false := anyB_f.mpr (fun i hi => kid_lo (by omega))
  rw [h0, if_neg (by decide)] at h
  unfold f_Model_hasChildren
  rw [hw]
  exact h
theorem older_M {G : GS} {F : Fam} {way : Int} (hM : FMo G F way) {a b : Nat} (ha : a < 32) (hb : b < 32) : f_Model_isOlder G a b = some (if older F a b = true then 1 else 0) := by
  have e1 := hM.2.1 5 a (by decide) (by decide)
  have e2 := hM.2.1 5 b (by decide) (by decide)
  have e3 := hM.2.1 6 a (by decide) (by decide)
  have e4 := hM.2.1 6 b (by decide) (by decide)
  simp only [Nat.reduceAdd] at e1 e2 e3 e4
  unfold older
  simp only [f_Model_isOlder, gd, if_pos (show (0 : Int) ≤ (a : Int) ∧ (a : Int) < 32 by omega), if_pos (show (0 : Int) ≤ (b : Int) ∧ (b : Int) < 32 by omega), Int.toNat_natCast, e1, e2, e3, e4, decide_eq_true_eq]
  by_cases c1 : F.1 5 a = F.1 5 b
  · rw [if_pos c1]
    by_cases c2 : F.1 6 a < F.1 6 b
    · rw [if_pos c2, if_pos (by omega)]
    · rw [if_neg c2]
      by_cases c3 : F.1 6 a = F.1 6 b
      · rw [if_pos c3]
        by_cases c4 : (b : Int) ≤ a
        · rw [if_pos c4, if_neg (by omega)]
        · rw [if_neg c4, if_pos (by omega)]
      · rw [if_neg c3, if_neg (by omega)]
  · rw [if_neg c1]
    by_cases c3 : F.1 5 b ≤ F.1 5 a
    · rw [if_pos c3, if_neg (by omega)]
    · rw [if_neg c3, if_pos (by omega)]
/-- whether o stands against i -/
def ag (F : Fam) (way : Int) (S : Nat → Bool) (i o : Nat) : Bool := S o && decide (o ≠ i) && !cnd F way i o
theorem may_ag (F : Fam) (way : Int) (S : Nat → Bool) (i : Nat) : may F way S i = !anyB (ag F way S i) F.2.2.2 := rfl
theorem stk_lo {F : Fam} {p : Nat} {but : Int} {i : Nat} (h : i ≤ p) : stk F p but i = false := by
  unfold stk
  rw [kid_lo h]; rfl
theorem stk_son {F : Fam} {p : Nat} {but : Int} (h : hasS F p but = true) (c : Nat) : (kid F p but c = true ∧ F.1 2 c = 0) ↔ stk F p but c = true := by
  unfold stk
  rw [h]
  simp
theorem mayM_L {G : GS} {F : Fam} {way : Int} (hF : FOK F) (hM : FMo G F way) {p i : Nat} {but : Int} (hS : hasS F p but = true) (hh : ∀ c, p < c → c < F.2.2.2 → HlM G F c) (hi : i < F.2.2.2) : ∀ (n o : Nat), p < o → o ≤ F.2.2.2 → F.2.2.2 - o < n → f_Model_mayBe_L8 G n i p but (if anyB (ag F way (stk F p but) i) o = true then 0 else 1) o = some (if may F way (stk F p but) i = true then 1 else 0) := by
  have hN := hF.1
  intro n
  induction n with
  | zero => intro c q1 q2 q3; omega
  | succ n ih =>
    intro o q1 q2 q3
    by_cases c1 : (F.2.2.2 : Int) ≤ o
    · have : o = F.2.2.2 := by omega
      subst this
      simp only [f_Model_mayBe_L8, hM.1, if_pos c1]
      rw [gd, if_pos (by split <;> simp), may_ag]
      cases anyB (ag F way (stk F p but) i) F.2.2.2 <;> rfl
    · have hw : wr ((o : Int) + 1) = ((o + 1 : Nat) : Int) := by rw [wr_of (by omega) (by omega)]; omega
      have hoN : o < F.2.2.2 := by omega
      have gi0 : (0 : Int) ≤ (i : Int) ∧ (i : Int) < 32 := by omega
      have go0 : (0 : Int) ≤ (o : Int) ∧ (o : Int) < 32 := by omega
      have ih' := ih (o + 1) (by omega) (by omega) (by omega)
      rw [anyB] at ih'
      by_cases e : o = i
      · have ha : ag F way (stk F p but) i o = false := by unfold ag; rw [decide_eq_false (show ¬ (o ≠ i) from fun z => z e)]; simp
        rw [ha, Bool.or_false] at ih'
        simp only [f_Model_mayBe_L8, hM.1, if_neg c1, if_pos (show (o : Int) = (i : Int) by omega), f_Model_mayBe_L144, hw]
        exact ih'
      · have hne : ¬ (o : Int) = (i : Int) := by omega
        have ho := one_M hF hM (but := but) (s := 0) q1 hoN (hh o q1 hoN)
        by_cases d : stk F p but o = true
        · rw [if_pos ((stk_son hS o).mpr d)] at ho
          have ha : ag F way (stk F p but) i o = !cnd F way i o := by unfold ag; rw [d, decide_eq_true e]; rfl
          rw [ha] at ih'
          by_cases k : anyB (ag F way (stk F p but) i) o = true
          · rw [k, Bool.true_or, if_pos rfl] at ih'
            rw [if_pos k]
            by_cases w0 : way = 0
            · simp only [f_Model_mayBe_L8, hM.1, if_neg c1, if_neg hne, ho, Option.bind_some, if_neg (show ¬ (1 : Int) = 0 by decide), hM.2.2.2.2, if_pos w0, if_true, f_Model_mayBe_L84, f_Model_mayBe_L85, f_Model_mayBe_L144, hw]
              exact ih'
            · simp only [f_Model_mayBe_L8, hM.1, if_neg c1, if_neg hne, ho, Option.bind_some, if_neg (show ¬ (1 : Int) = 0 by decide), hM.2.2.2.2, if_neg w0, if_true, f_Model_mayBe_L141, f_Model_mayBe_L142, f_Model_mayBe_L144, hw]
              exact ih'
          · have kf : anyB (ag F way (stk F p but) i) o = false := by cases z : anyB (ag F way (stk F p but) i) o <;> simp_all
            rw [kf, Bool.false_or] at ih'
            rw [if_neg k]
            by_cases w0 : way = 0
            · by_cases w1 : F.2.2.1 = 0
              · have hcn : cnd F way i o = older F i o := by unfold cnd; rw [if_pos w0, if_pos w1]
                have hol := older_M hM (a := i) (b := o) (by omega) (by omega)
                rw [hcn] at ih'
                by_cases w2 : older F i o = true
                · rw [if_pos w2] at hol
                  rw [w2, Bool.not_true, if_neg (by decide)] at ih'
                  simp only [f_Model_mayBe_L8, hM.1, if_neg c1, if_neg hne, ho, Option.bind_some, if_neg (show ¬ (1 : Int) = 0 by decide), hM.2.2.2.2, if_pos w0, hM.2.2.2.1, if_pos w1, hol, f_Model_mayBe_L80, f_Model_mayBe_L85, f_Model_mayBe_L144, hw]
                  exact ih'
                · have w2f : older F i o = false := by cases z : older F i o <;> simp_all
                  rw [if_neg w2] at hol
                  rw [w2f, Bool.not_false, if_pos rfl] at ih'
                  simp only [f_Model_mayBe_L8, hM.1, if_neg c1, if_neg hne, ho, Option.bind_some, if_neg (show ¬ (1 : Int) = 0 by decide), hM.2.2.2.2, if_pos w0, hM.2.2.2.1, if_pos w1, hol, if_true, f_Model_mayBe_L84, f_Model_mayBe_L85, f_Model_mayBe_L144, hw]
                  exact ih'
              · have hcn : cnd F way i o = older F o i := by unfold cnd; rw [if_pos w0, if_neg w1]
                have hol := older_M hM (a := o) (b := i) (by omega) (by omega)
                rw [hcn] at ih'
                by_cases w2 : older F o i = true
                · rw [if_pos w2] at hol
                  rw [w2, Bool.not_true, if_neg (by decide)] at ih'
                  simp only [f_Model_mayBe_L8, hM.1, if_neg c1, if_neg hne, ho, Option.bind_some, if_neg (show ¬ (1 : Int) = 0 by decide), hM.2.2.2.2, if_pos w0, hM.2.2.2.1, if_neg w1, hol, f_Model_mayBe_L80, f_Model_mayBe_L85, f_Model_mayBe_L144, hw]
                  exact ih'
                · have w2f : older F o i = false := by cases z : older F o i <;> simp_all
                  rw [if_neg w2] at hol
                  rw [w2f, Bool.not_false, if_pos rfl] at ih'
                  simp only [f_Model_mayBe_L8, hM.1, if_neg c1, if_neg hne, ho, Option.bind_some, if_neg (show ¬ (1 : Int) = 0 by decide), hM.2.2.2.2, if_pos w0, hM.2.2.2.1, if_neg w1, hol, if_true, f_Model_mayBe_L84, f_Model_mayBe_L85, f_Model_mayBe_L144, hw]
                  exact ih'
            · have x5i := hM.2.1 5 i (by decide) (by decide)
              have x6i := hM.2.1 6 i (by decide) (by decide)
              have x5o := hM.2.1 5 o (by decide) (by decide)
              have x6o := hM.2.1 6 o (by decide) (by decide)
              simp only [Nat.reduceAdd] at x5i x6i x5o x6o
              by_cases w1 : F.2.2.1 = 0
              · by_cases w2 : F.1 6 o < F.1 5 i
                · have hcn : cnd F way i o = false := by unfold cnd; rw [if_neg w0, if_pos w1]; exact decide_eq_false (by omega)
                  rw [hcn, Bool.not_false, if_pos rfl] at ih'
                  simp only [f_Model_mayBe_L8, hM.1, if_neg c1, if_neg hne, ho, Option.bind_some, if_neg (show ¬ (1 : Int) = 0 by decide), hM.2.2.2.2, if_neg w0, hM.2.2.2.1, if_pos w1, gd, if_pos gi0, if_pos go0, Int.toNat_natCast, x6o, x5i, if_pos w2, f_Model_mayBe_L141, f_Model_mayBe_L142, f_Model_mayBe_L144, hw]
                  exact ih'
                · have hcn : cnd F way i o = true := by unfold cnd; rw [if_neg w0, if_pos w1]; exact decide_eq_true (by omega)
                  rw [hcn, Bool.not_true, if_neg (by decide)] at ih'
                  simp only [f_Model_mayBe_L8, hM.1, if_neg c1, if_neg hne, ho, Option.bind_some, if_neg (show ¬ (1 : Int) = 0 by decide), hM.2.2.2.2, if_neg w0, hM.2.2.2.1, if_pos w1, gd, if_pos gi0, if_pos go0, Int.toNat_natCast, x6o, x5i, if_neg w2, f_Model_mayBe_L137, f_Model_mayBe_L142, f_Model_mayBe_L144, hw]
                  exact ih'
              · by_cases w2 : F.1 6 i < F.1 5 o
                · have hcn : cnd F way i o = false := by unfold cnd; rw [if_neg w0, if_neg w1]; exact decide_eq_false (by omega)
                  rw [hcn, Bool.not_false, if_pos rfl] at ih'
                  simp only [f_Model_mayBe_L8, hM.1, if_neg c1, if_neg hne, ho, Option.bind_some, if_neg (show ¬ (1 : Int) = 0 by decide), hM.2.2.2.2, if_neg w0, hM.2.2.2.1, if_neg w1, gd, if_pos gi0, if_pos go0, Int.toNat_natCast, x6i, x5o, if_pos w2, f_Model_mayBe_L141, f_Model_mayBe_L142, f_Model_mayBe_L144, hw]
                  exact ih'
                · have hcn : cnd F way i o = true := by unfold cnd; rw [if_neg w0, if_neg w1]; exact decide_eq_true (by omega)
                  rw [hcn, Bool.not_true, if_neg (by decide)] at ih'
                  simp only [f_Model_mayBe_L8, hM.1, if_neg c1, if_neg hne, ho, Option.bind_some, if_neg (show ¬ (1 : Int) = 0 by decide), hM.2.2.2.2, if_neg w0, hM.2.2.2.1, if_neg w1, gd, if_pos gi0, if_pos go0, Int.toNat_natCast, x6i, x5o, if_neg w2, f_Model_mayBe_L137, f_Model_mayBe_L142, f_Model_mayBe_L144, hw]
                  exact ih'
        · rw [if_neg (fun z => d ((stk_son hS o).mp z))] at ho
          have ha : ag F way (stk F p but) i o = false := by
            have df : stk F p but o = false := by cases z : stk F p but o <;> simp_all
            unfold ag; rw [df]; rfl
          rw [ha, Bool.or_false] at ih'
          simp only [f_Model_mayBe_L8, hM.1, if_neg c1, if_neg hne, ho, Option.bind_some, if_true, f_Model_mayBe_L144, hw]
          exact ih'
theorem mayM {G : GS} {F : Fam} {way : Int} (hF : FOK F) (hM : FMo G F way) {p i : Nat} {but : Int} (hp : p < F.2.2.2) (hS : hasS F p but = true) (hh : ∀ c, p < c → c < F.2.2.2 → HlM G F c) (hi : i < F.2.2.2) : f_Model_mayBe G i p but = some (if may F way (stk F p but) i = true then 1 else 0) := by
  have hN := hF.1
  have hw : wr ((p : Int) + 1) = ((p + 1 : Nat) : Int) := by rw [wr_of (by omega) (by omega)]; omega
  have h := mayM_L hF hM (but := but) hS hh hi FU (p + 1) (by omega) (by omega) (by unfold FU; omega)
  have h0 : anyB (ag F way (stk F p but) i) (p + 1) = false := anyB_f.mpr (fun j hj => by unfold ag; rw [stk_lo (by omega)]; rfl)
  rw [h0, if_neg (by decide)] at h
  unfold f_Model_mayBe
  rw [hw]
  exact h
