/-! the lines, as the class lays them -/
theorem hl_kid {F : Fam} {p : Nat} {but : Int} : anyB (stk F p but) F.2.2.2 = anyB (kid F p but) F.2.2.2 := by
  cases h : anyB (kid F p but) F.2.2.2
  · rw [anyB_f] at h ⊢
    intro i hi
    unfold stk
    rw [h i hi, Bool.false_and]
  · obtain ⟨i, hi, hk⟩ := anyB_t.mp h
    rw [anyB_t]
    by_cases c : hasS F p but = true
    · obtain ⟨j, hj, hs⟩ := anyB_t.mp c
      unfold son at hs
      have := Bool.and_eq_true_iff.mp hs
      exact ⟨j, hj, by unfold stk; rw [this.1, this.2]; rfl⟩
    · have c' : hasS F p but = false := by cases z : hasS F p but <;> simp_all
      exact ⟨i, hi, by unfold stk; rw [hk, c']; simp⟩
theorem frM_pos {x y : Nat × Nat} (hx : 0 < x.2) (hy : 0 < y.2) : 0 < (frM x y).1 ↔ 0 < x.1 ∨ 0 < y.1 := by
  obtain ⟨⟨z1, z2⟩, z3⟩ := frM_s hx hy
  generalize frM x y = z at *
  have hp := Nat.mul_pos hx hy
  constructor
  · intro h
    have : 0 < (x.1 * y.2 + y.1 * x.2) * z.2 := by rw [z3]; exact Nat.mul_pos h hp
    rcases Nat.eq_zero_or_pos x.1 with a | a
    · rcases Nat.eq_zero_or_pos y.1 with b | b
      · rw [a, b] at this; simp at this
      · exact Or.inr b
    · exact Or.inl a
  · intro h
    have : 0 < x.1 * y.2 + y.1 * x.2 := by
      rcases h with h | h
      · have := Nat.mul_pos h hy; omega
      · have := Nat.mul_pos h hx; omega
    have := Nat.mul_pos this z1
    rw [z3] at this
    exact Nat.pos_of_mul_pos_right this
theorem mF_pos {S : Nat → Bool} {v : Nat → Nat × Nat} : ∀ n, (∀ i, i < n → S i = true → Gd (v i)) → (0 < (mF S v n).1 ↔ ∃ i, i < n ∧ S i = true ∧ 0 < (v i).1) := by
  intro n
  induction n with
  | zero => intro _; exact ⟨fun h => by simp [mF] at h, fun ⟨i, h, _⟩ => by omega⟩
  | succ n ih =>
    intro h
    have ih' := ih (fun i hi => h i (by omega))
    have m1 := (mF_g n (fun i hi => h i (by omega))).1
    rw [mF]
    by_cases c : S n = true
    · rw [if_pos c, frM_pos m1.1 (h n (by omega) c).1.1, ih']
      constructor
      · rintro (⟨i, a, b⟩ | a)
        · exact ⟨i, by omega, b⟩
        · exact ⟨n, by omega, c, a⟩
      · rintro ⟨i, a, b, d⟩
        by_cases z : i = n
        · right; rw [← z]; exact d
        · left; exact ⟨i, by omega, b, d⟩
    · rw [if_neg c, ih']
      constructor
      · rintro ⟨i, a, b⟩; exact ⟨i, by omega, b⟩
      · rintro ⟨i, a, b, d⟩
        refine ⟨i, ?_, b, d⟩
        by_cases z : i = n
        · rw [z] at b; exact absurd b c
        · omega
theorem fin_pos {x : Nat × Nat} {k : Nat} (hx : 0 < x.2) (hk : 0 < k) : 0 < (fin x k).1 ↔ 0 < x.1 := by
  have hp := Nat.mul_pos hx hk
  obtain ⟨r1, r2⟩ := red_s (a := x.1) hp
  show 0 < (red x.1 (x.2 * k)).1 ↔ _
  generalize red x.1 (x.2 * k) = z at *
  constructor
  · intro h
    have := Nat.mul_pos h hp
    rw [← r2] at this
    exact Nat.pos_of_mul_pos_right this
  · intro h
    have := Nat.mul_pos h r1.1
    rw [r2] at this
    exact Nat.pos_of_mul_pos_right this
theorem ct_pos {S : Nat → Bool} {n : Nat} (h : ∃ i, i < n ∧ S i = true) : 0 < fb_ct S n := by
  obtain ⟨i, h1, h2⟩ := h
  have := fb_ct_mono S (show i + 1 ≤ n from h1)
  rw [fb_ct_succ, if_pos h2] at this
  omega
/-- who has a part of it, as born -/
def kp (F : Fam) (L : Nat → Bool) (p : Nat) (but : Int) : Bool :=
  if hasS F p but = true ∧ F.2.2.1 ≠ 2 then (match bsN F (stk F p but) F.2.2.2 with | none => false | some f => L f) else anyB (fun c => stk F p but c && L c) F.2.2.2
theorem kv_pos {F : Fam} {v : Nat → Nat × Nat} {p : Nat} {but : Int} (h : ∀ c, p < c → c < F.2.2.2 → Gd (v c)) : decide (0 < (kv F 0 v p but).1) = kp F (fun c => decide (0 < (v c).1)) p but := by
  have hS : ∀ i, i < F.2.2.2 → stk F p but i = true → Gd (v i) := fun i hi hs => h i (stk_gt hs).1 hi
  unfold kv kp
  by_cases c : anyB (stk F p but) F.2.2.2 = true
  · rw [if_pos c]
    by_cases d : hasS F p but = true ∧ F.2.2.1 ≠ 2
    · rw [if_pos d, if_pos d]
      cases hb : bsN F (stk F p but) F.2.2.2 with
      | none =>
        obtain ⟨i, h1, h2⟩ := anyB_t.mp c
        have := (bsN_s F.2.2.2).1 hb i h1
        rw [this] at h2; cases h2
      | some f => rw [pk0 hb]; rfl
    · rw [if_neg d, if_neg d]
      have hk := ct_pos (anyB_t.mp c)
      have m1 := (mF_g (v := v) F.2.2.2 hS).1
      have e := (fin_pos m1.1 hk).trans (mF_pos F.2.2.2 hS)
      cases z : anyB (fun c => stk F p but c && decide (0 < (v c).1)) F.2.2.2
      · rw [anyB_f] at z
        refine decide_eq_false fun y => ?_
        obtain ⟨i, a1, a2, a3⟩ := e.mp y
        have := z i a1
        rw [a2, decide_eq_true a3] at this; cases this
      · obtain ⟨i, a1, a2⟩ := anyB_t.mp z
        have a2' := Bool.and_eq_true_iff.mp a2
        exact decide_eq_true (e.mpr ⟨i, a1, a2'.1, of_decide_eq_true a2'.2⟩)
  · rw [if_neg c]
    have c' : anyB (stk F p but) F.2.2.2 = false := by cases z : anyB (stk F p but) F.2.2.2 <;> simp_all
    have hz : ∀ i, i < F.2.2.2 → stk F p but i = false := anyB_f.mp c'
    have d : ¬ (hasS F p but = true ∧ F.2.2.1 ≠ 2) := fun y => by
      obtain ⟨i, a1, a2⟩ := anyB_t.mp y.1
      have := hz i a1
      unfold son at a2
      have a3 := Bool.and_eq_true_iff.mp a2
      unfold stk at this
      rw [a3.1, a3.2] at this; cases this
    rw [if_neg d]
    have : anyB (fun c => stk F p but c && decide (0 < (v c).1)) F.2.2.2 = false := anyB_f.mpr (fun i hi => by rw [hz i hi, Bool.false_and])
    rw [this]; rfl
/-- a line is there, if somebody has a part of it -/
theorem hl_pos {F : Fam} (hF : FOK F) : ∀ m p, p + m = F.2.2.2 → ∀ c, p ≤ c → c < F.2.2.2 → (hl F c = true ↔ ∃ i, i < F.2.2.2 ∧ 0 < (vv F i 0 c).1) := by
  intro m
  induction m with
  | zero => intro p hp c a b; omega
  | succ m ih =>
    intro p hp c a b
    have ih' := ih (p + 1) (by omega)
    by_cases z : c = p
    · subst z
      have hGd : ∀ q, ∀ i, c < i → i < F.2.2.2 → Gd (vv F q 0 i) := fun q i _ hi => vv_g hF q 0 hi
      by_cases ha : alv F c = true
      · constructor
        · intro _
          refine ⟨c, b, ?_⟩
          rw [vv_eq, if_pos ha]
          simp
        · intro _
          rw [hl_eq, ha, Bool.true_or]
      · have ha' : alv F c = false := by cases y : alv F c <;> simp_all
        have hkid : anyB (kid F c (-1)) F.2.2.2 = hl F c := by
          rw [hl_eq, ha', Bool.false_or]
          refine anyB_cong fun i hi => ?_
          unfold kid
          rw [decide_eq_true (show ((i : Int) ≠ -1) by omega), Bool.and_true]
        rw [← hkid, ← hl_kid]
        have hv : ∀ q, (0 < (vv F q 0 c).1) ↔ kp F (fun i => decide (0 < (vv F q 0 i).1)) c (-1) = true := fun q => by
          rw [vv_eq, if_neg ha, ← kv_pos (hGd q)]
          exact (decide_eq_true_iff).symm
        constructor
        · intro h
          by_cases d : hasS F c (-1) = true ∧ F.2.2.1 ≠ 2
          · cases hb : bsN F (stk F c (-1)) F.2.2.2 with
            | none =>
              obtain ⟨i, h1, h2⟩ := anyB_t.mp h
              have := (bsN_s F.2.2.2).1 hb i h1
              rw [this] at h2; cases h2
            | some f =>
              obtain ⟨g1, g2, -⟩ := (bsN_s F.2.2.2).2 f hb
              obtain ⟨q, q1, q2⟩ := (ih' f (by have := (stk_gt g2).1; omega) g1).mp (stk_gt g2).2.2.2.1
              refine ⟨q, q1, (hv q).mpr ?_⟩
              unfold kp
              rw [if_pos d, hb]
              exact decide_eq_true q2
          · obtain ⟨f, g1, g2⟩ := anyB_t.mp h
            obtain ⟨q, q1, q2⟩ := (ih' f (by have := (stk_gt g2).1; omega) g1).mp (stk_gt g2).2.2.2.1
            refine ⟨q, q1, (hv q).mpr ?_⟩
            unfold kp
            rw [if_neg d]
            exact anyB_t.mpr ⟨f, g1, by rw [g2, Bool.true_and]; exact decide_eq_true q2⟩
        · rintro ⟨q, q1, q2⟩
          have := (hv q).mp q2
          unfold kp at this
          by_cases d : hasS F c (-1) = true ∧ F.2.2.1 ≠ 2
          · rw [if_pos d] at this
            cases hb : bsN F (stk F c (-1)) F.2.2.2 with
            | none => rw [hb] at this; cases this
            | some f =>
              obtain ⟨g1, g2, -⟩ := (bsN_s F.2.2.2).2 f hb
              exact anyB_t.mpr ⟨f, g1, g2⟩
          · rw [if_neg d] at this
            obtain ⟨f, g1, g2⟩ := anyB_t.mp this
            exact anyB_t.mpr ⟨f, g1, (Bool.and_eq_true_iff.mp g2).1⟩
    · exact ih' c (by omega) b
/-! over the store -/
def FC (G : GS) (F : Fam) : Prop := gi G 1 7 = F.2.2.2 ∧ (∀ c k, 2 ≤ c → c ≤ 7 → gi G c k = F.1 c k) ∧ gi G 30 1 = F.2.1 ∧ gi G 30 2 = F.2.2.1
theorem FC_fr {G G' : GS} {F : Fam} (hi : ∀ c k, c ≠ 31 → c ≠ 32 → ¬ (c = 30 ∧ k = 3) → gi G' c k = gi G c k) (h : FC G F) : FC G' F :=
  ⟨by rw [hi 1 7 (by decide) (by decide) (by omega)]; exact h.1, fun c k a b => by rw [hi c k (by omega) (by omega) (by omega)]; exact h.2.1 c k a b, by rw [hi 30 1 (by decide) (by decide) (by omega)]; exact h.2.2.1, by rw [hi 30 2 (by decide) (by decide) (by omega)]; exact h.2.2.2⟩
def SbK (S : Int) (f : Nat → Bool) (N : Nat) : Prop := wr S = S ∧ ∀ i, i < 32 → tb S i = (decide (i < N) && f i)
def MenOK (G : GS) (F : Fam) (p : Nat) : Prop := ∀ i, i < 32 → tb (gi G 30 3) i = (decide (p ≤ i ∧ i < F.2.2.2) && decide (F.1 2 i = 0))
theorem SbK_z {S : Int} {f : Nat → Bool} {N : Nat} (hN : N ≤ 32) (h : SbK S f N) : S = 0 ↔ anyB f N = false := by
  rw [z_iff h.1, anyB_f]
  constructor
  · intro a i hi
    have := a i (by omega)
    rw [h.2 i (by omega), decide_eq_true hi, Bool.true_and] at this
    exact this
  · intro a i hi
    rw [h.2 i hi]
    by_cases c : i < N
    · rw [a i c, Bool.and_false]
    · rw [decide_eq_false c, Bool.false_and]
theorem SbK_men {G : GS} {F : Fam} (hF : FOK F) {p q : Nat} {but : Int} {S : Int} (h : SbK S (stk F p but) F.2.2.2) (hm : MenOK G F q) (hq : q ≤ p + 1) : bAnd S (gi G 30 3) = 0 ↔ hasS F p but = false := by
  have hN := hF.1
  rw [and_z]
  unfold hasS
  rw [anyB_f]
  constructor
  · intro a i hi
    cases c : son F p but i
    · rfl
    · unfold son at c
      have c' := Bool.and_eq_true_iff.mp c
      exfalso
      refine a i (by omega) ⟨?_, ?_⟩
      · rw [h.2 i (by omega), decide_eq_true hi]
        unfold stk
        rw [c'.1, c'.2]; rfl
      · have hk := c'.1
        unfold kid at hk
        simp only [Bool.and_eq_true, decide_eq_true_eq] at hk
        rw [hm i (by omega), decide_eq_true (show q ≤ i ∧ i < F.2.2.2 by omega), c'.2]; rfl
  · intro a i hi b
    have b1 := b.1
    have b2 := b.2
    rw [h.2 i hi] at b1
    rw [hm i hi] at b2
    have b1' := Bool.and_eq_true_iff.mp b1
    have b2' := Bool.and_eq_true_iff.mp b2
    have hlt := of_decide_eq_true b1'.1
    have := a i hlt
    unfold son at this
    have hk := b1'.2
    unfold stk at hk
    rw [(Bool.and_eq_true_iff.mp hk).1, b2'.2] at this
    cases this
theorem stock_L {G : GS} {F : Fam} (hF : FOK F) (hC : FC G F) {p : Nat} {but : Int} {q : Nat} (hq : q ≤ p + 1) (hm : MenOK G F q) (hL : ∀ c, p < c → c < F.2.2.2 → (gi G 31 c ≠ 0 ↔ hl F c = true)) : ∀ (n c : Nat) (S : Int), p < c → c ≤ F.2.2.2 ∨ c = p + 1 → F.2.2.2 - c < n → SbK S (fun i => decide (i < c) && kid F p but i) F.2.2.2 → ∃ S1, f_Descent_stockOf_L7 G n p but S c = some S1 ∧ SbK S1 (stk F p but) F.2.2.2 := by
  have hN := hF.1
  intro n
  induction n with
  | zero => intro c S q1 q2 q3; omega
  | succ n ih =>
    intro c S q1 q2 q3 hS
    by_cases c1 : (F.2.2.2 : Int) ≤ c
    · have hS' : SbK S (kid F p but) F.2.2.2 := ⟨hS.1, fun i hi => by
        rw [hS.2 i hi]
        dsimp only
        by_cases z : i < F.2.2.2
        · rw [decide_eq_true z, decide_eq_true (show i < c by omega), Bool.true_and]
        · rw [decide_eq_false z, Bool.false_and, Bool.false_and]⟩
      have hand : ∀ i, i < 32 → tb (bAnd S (gi G 30 3)) i = (decide (i < F.2.2.2) && son F p but i) := fun i hi => by
        rw [tb_and, hS'.2 i hi, hm i hi]
        unfold son
        by_cases z : i < F.2.2.2
        · rw [decide_eq_true z, Bool.true_and, Bool.true_and]
          cases hk : kid F p but i
          · rw [Bool.false_and, Bool.false_and]
          · have hk' := hk
            unfold kid at hk'
            simp only [Bool.and_eq_true, decide_eq_true_eq] at hk'
            rw [decide_eq_true (show q ≤ i ∧ i < F.2.2.2 by omega), Bool.true_and]
        · rw [decide_eq_false z, Bool.false_and, Bool.false_and, Bool.false_and]
      have hz : bAnd S (gi G 30 3) = 0 ↔ hasS F p but = false := by
        rw [z_iff (wr_and _ _)]
        unfold hasS
        rw [anyB_f]
        constructor
        · intro a i hi
          have := a i (by omega)
          rw [hand i (by omega), decide_eq_true hi, Bool.true_and] at this
          exact this
        · intro a i hi
          rw [hand i hi]
          by_cases z : i < F.2.2.2
          · rw [a i z, Bool.and_false]
          · rw [decide_eq_false z, Bool.false_and]
      by_cases d : bAnd S (gi G 30 3) = 0
      · refine ⟨S, by simp only [f_Descent_stockOf_L7, hC.1, if_pos c1, if_pos d], hS.1, fun i hi => ?_⟩
        rw [hS'.2 i hi]
        unfold stk
        rw [hz.mp d]
        simp
      · refine ⟨bAnd S (gi G 30 3), by simp only [f_Descent_stockOf_L7, hC.1, if_pos c1, if_neg d], wr_and _ _, fun i hi => ?_⟩
        rw [hand i hi]
        unfold stk son
        have : hasS F p but = true := by
          cases y : hasS F p but
          · exact absurd (hz.mpr y) d
          · rfl
        rw [this]
        simp
    · have hw : wr ((c : Int) + 1) = ((c + 1 : Nat) : Int) := by rw [wr_of (by omega) (by omega)]; omega
      have hcN : c < F.2.2.2 := by omega
      have g1 : (0 : Int) ≤ (c : Int) ∧ (c : Int) < 32 := by omega
      have g2 : (0 : Int) ≤ (c : Int) ∧ (c : Int) < 33 := by omega
      have e3 := hC.2.1 3 c (by decide) (by decide)
      have e4 := hC.2.1 4 c (by decide) (by decide)
      have e5 := hC.2.1 5 c (by decide) (by decide)
      have hl' := hL c q1 hcN
      have stay : kid F p but c = false → ∃ S1, f_Descent_stockOf_L7 G n p but S ((c + 1 : Nat) : Int) = some S1 ∧ SbK S1 (stk F p but) F.2.2.2 := fun hk => ih (c + 1) S (by omega) (by omega) (by omega) ⟨hS.1, fun i hi => by
        rw [hS.2 i hi]
        dsimp only
        by_cases z : i = c
        · rw [z, hk]; simp
        · by_cases y : i < c
          · rw [decide_eq_true y, decide_eq_true (show i < c + 1 by omega)]
          · rw [decide_eq_false y, decide_eq_false (show ¬ i < c + 1 by omega)]⟩
      have add : kid F p but c = true → ∃ S1, f_Descent_stockOf_L7 G n p but (bOr S (bShl 1 c)) ((c + 1 : Nat) : Int) = some S1 ∧ SbK S1 (stk F p but) F.2.2.2 := fun hk => ih (c + 1) (bOr S (bShl 1 c)) (by omega) (by omega) (by omega) ⟨wr_or _ _, fun i hi => by
        rw [tb_or, tb_shl (by omega), hS.2 i hi]
        dsimp only
        by_cases z : i = c
        · subst z
          rw [hk, decide_eq_true (show i = i from rfl), decide_eq_true hcN, decide_eq_true (show i < i + 1 by omega)]; simp
        · rw [decide_eq_false z, Bool.or_false]
          by_cases y : i < c
          · rw [decide_eq_true y, decide_eq_true (show i < c + 1 by omega)]
          · rw [decide_eq_false y, decide_eq_false (show ¬ i < c + 1 by omega)]⟩
      -- the child's row
      by_cases k1 : F.1 3 c = (p : Int) ∨ F.1 4 c = (p : Int)
      · have e : f_Descent_stockOf_L7 G (n + 1) p but S c = f_Descent_stockOf_L52 G (f_Descent_stockOf_L7 G n) p but S c 1 := by
          by_cases k3 : F.1 3 c = (p : Int)
          · simp only [f_Descent_stockOf_L7, hC.1, if_neg c1, gd, if_pos g1, Int.toNat_natCast, e3, if_pos k3, f_Descent_stockOf_L47]
          · simp only [f_Descent_stockOf_L7, hC.1, if_neg c1, gd, if_pos g1, Int.toNat_natCast, e3, if_neg k3, e4, if_pos (show F.1 4 c = (p : Int) by omega), f_Descent_stockOf_L47]
        rw [e]
        by_cases k2 : (c : Int) = but
        · have hk : kid F p but c = false := by
            unfold kid
            rw [decide_eq_false (show ¬ ((c : Int) ≠ but) from fun z => z k2)]; simp
          simp only [f_Descent_stockOf_L52, if_neg (show ¬ (1 : Int) = 0 by decide), if_pos k2, f_Descent_stockOf_L99, hw]
          exact stay hk
        · by_cases k5 : F.2.1 < F.1 5 c
          · have hk : kid F p but c = false := by
              unfold kid chl
              rw [decide_eq_false (show ¬ ((F.1 3 c = (p : Int) ∨ F.1 4 c = (p : Int)) ∧ F.1 5 c ≤ F.2.1) by omega)]; simp
            simp only [f_Descent_stockOf_L52, if_neg (show ¬ (1 : Int) = 0 by decide), if_neg k2, gd, if_pos g1, Int.toNat_natCast, hC.2.2.1, e5, if_pos k5, f_Descent_stockOf_L99, hw]
            exact stay hk
          · by_cases k6 : gi G 31 c = 0
            · have hk : kid F p but c = false := by
                have : hl F c = false := by
                  cases y : hl F c
                  · rfl
                  · exact absurd k6 (hl'.mpr y)
                unfold kid
                rw [this, Bool.and_false]
              simp only [f_Descent_stockOf_L52, if_neg (show ¬ (1 : Int) = 0 by decide), if_neg k2, gd, if_pos g1, if_pos g2, Int.toNat_natCast, hC.2.2.1, e5, if_neg k5, if_pos k6, f_Descent_stockOf_L99, hw]
              exact stay hk
            · have hk : kid F p but c = true := by
                unfold kid chl
                rw [hl'.mp k6, decide_eq_true q1, decide_eq_true k2, decide_eq_true (show (F.1 3 c = (p : Int) ∨ F.1 4 c = (p : Int)) ∧ F.1 5 c ≤ F.2.1 by omega)]; rfl
              simp only [f_Descent_stockOf_L52, if_neg (show ¬ (1 : Int) = 0 by decide), if_neg k2, gd, if_pos g1, if_pos g2, Int.toNat_natCast, hC.2.2.1, e5, if_neg k5, if_neg k6, f_Descent_stockOf_L99, hw]
              exact add hk
      · have hk : kid F p but c = false := by
          unfold kid chl
          rw [decide_eq_false (show ¬ ((F.1 3 c = (p : Int) ∨ F.1 4 c = (p : Int)) ∧ F.1 5 c ≤ F.2.1) by omega)]; simp
        simp only [f_Descent_stockOf_L7, hC.1, if_neg c1, gd, if_pos g1, Int.toNat_natCast, e3, if_neg (show ¬ F.1 3 c = (p : Int) by omega), e4, if_neg (show ¬ F.1 4 c = (p : Int) by omega), f_Descent_stockOf_L52, if_true, f_Descent_stockOf_L99, hw]
        exact stay hk
theorem stock_eq {G : GS} {F : Fam} (hF : FOK F) (hC : FC G F) {p : Nat} {but : Int} {q : Nat} (hp : p < 32) (hq : q ≤ p + 1) (hm : MenOK G F q) (hL : ∀ c, p < c → c < F.2.2.2 → (gi G 31 c ≠ 0 ↔ hl F c = true)) : ∃ S1, f_Descent_stockOf G p but = some S1 ∧ SbK S1 (stk F p but) F.2.2.2 := by
  have hw : wr ((p : Int) + 1) = ((p + 1 : Nat) : Int) := by rw [wr_of (by omega) (by omega)]; omega
  unfold f_Descent_stockOf
  rw [hw]
  refine stock_L hF hC hq hm hL FU (p + 1) 0 (by omega) (Or.inr rfl) (by have := hF.1; unfold FU; omega) ⟨wr_zero, fun i hi => ?_⟩
  rw [tb_0]
  dsimp only
  unfold kid
  by_cases z : p < i
  · rw [decide_eq_false (show ¬ i < p + 1 by omega)]; simp
  · rw [decide_eq_false z]; simp
theorem older_C {G : GS} {F : Fam} (hF : FOK F) (hC : FC G F) {a b : Nat} (ha : a < 32) (hb : b < 32) : f_People_isOlder G a b = some (if older F a b = true then 1 else 0) := by
  have e1 := hC.2.1 5 a (by decide) (by decide)
  have e2 := hC.2.1 5 b (by decide) (by decide)
  have e3 := hC.2.1 6 a (by decide) (by decide)
  have e4 := hC.2.1 6 b (by decide) (by decide)
  unfold older
  simp only [f_People_isOlder, gd, if_pos (show (0 : Int) ≤ (a : Int) ∧ (a : Int) < 32 by omega), if_pos (show (0 : Int) ≤ (b : Int) ∧ (b : Int) < 32 by omega), Int.toNat_natCast, e1, e2, e3, e4, decide_eq_true_eq]
  by_cases c1 : F.1 5 a = F.1 5 b
  · rw [if_pos c1]
    by_cases c2 : F.1 6 a = F.1 6 b
    · rw [if_pos c2]
      by_cases c3 : (b : Int) ≤ a
      · rw [if_pos c3, if_neg (by omega)]
      · rw [if_neg c3, if_pos (by omega)]
    · rw [if_neg c2]
      by_cases c3 : F.1 6 b ≤ F.1 6 a
      · rw [if_pos c3, if_neg (by omega)]
      · rw [if_neg c3, if_pos (by omega)]
  · rw [if_neg c1]
    by_cases c3 : F.1 5 b ≤ F.1 5 a
    · rw [if_pos c3, if_neg (by omega)]
    · rw [if_neg c3, if_pos (by omega)]
def oI : Option Nat → Int
  | none => -1
  | some f => (f : Int)
theorem S_bit {S : Int} {f : Nat → Bool} {N i : Nat} (h : SbK S f N) (hi : i < N) (hN : N ≤ 32) : bAnd S (bShl 1 (i : Int)) = 0 ↔ f i = false := by
  rw [and_bit (by omega), h.2 i (by omega), decide_eq_true hi, Bool.true_and]
theorem chosen_L {G : GS} {F : Fam} (hF : FOK F) (hC : FC G F) {S : Int} {f : Nat → Bool} (hS : SbK S f F.2.2.2) : ∀ (n i : Nat), i ≤ F.2.2.2 → F.2.2.2 - i < n → f_Descent_chosen_L4 G n S (oI (bsN F f i)) i = some (max 0 (oI (bsN F f F.2.2.2))) := by
  have hN := hF.1
  intro n
  induction n with
  | zero => intro i q1 q2; omega
  | succ n ih =>
    intro i q1 q2
    by_cases c1 : (F.2.2.2 : Int) ≤ i
    · have : i = F.2.2.2 := by omega
      subst this
      simp only [f_Descent_chosen_L4, hC.1, if_pos c1]
    · have hw : wr ((i : Int) + 1) = ((i + 1 : Nat) : Int) := by rw [wr_of (by omega) (by omega)]; omega
      have hb := S_bit hS (show i < F.2.2.2 by omega) hN
      have ih' := ih (i + 1) (by omega) (by omega)
      rw [bsN] at ih'
      by_cases d : f i = true
      · rw [if_pos d] at ih'
        have hnb : ¬ bAnd S (bShl 1 (i : Int)) = 0 := fun z => by rw [hb, d] at z; cases z
        cases hbs : bsN F f i with
        | none =>
          rw [hbs] at ih'
          simp only [f_Descent_chosen_L4, hC.1, if_neg c1, if_neg hnb, oI, if_true, f_Descent_chosen_L52, f_Descent_chosen_L54, hw]
          exact ih'
        | some g =>
          have hg := ((bsN_s i).2 g hbs).1
          rw [hbs] at ih'
          have ho := older_C hF hC (a := i) (b := g) (by omega) (by omega)
          unfold bsS at ih'
          simp only at ih'
          simp only [f_Descent_chosen_L4, hC.1, if_neg c1, if_neg hnb, oI, if_neg (show ¬ (g : Int) = -1 by omega), ho, Option.bind_some, hC.2.2.2]
          by_cases e1 : F.2.2.1 = 0
          · rw [decide_eq_true e1] at ih'
            rw [if_pos e1]
            by_cases e2 : older F i g = true
            · rw [if_pos e2] at ih' ⊢
              simp only [f_Descent_chosen_L49, if_true, f_Descent_chosen_L52, f_Descent_chosen_L54, hw]
              exact ih'
            · rw [if_neg e2] at ih' ⊢
              simp only [f_Descent_chosen_L49, if_neg (show ¬ (0 : Int) = 1 by decide), f_Descent_chosen_L54, hw]
              exact ih'
          · rw [decide_eq_false e1] at ih'
            rw [if_neg e1]
            by_cases e2 : older F i g = true
            · rw [if_neg (by rw [e2]; decide)] at ih'
              rw [if_pos e2]
              simp only [f_Descent_chosen_L49, if_neg (show ¬ (1 : Int) = 0 by decide), f_Descent_chosen_L54, hw]
              exact ih'
            · rw [if_pos (by cases z : older F i g <;> simp_all)] at ih'
              rw [if_neg e2]
              simp only [f_Descent_chosen_L49, if_true, f_Descent_chosen_L52, f_Descent_chosen_L54, hw]
              exact ih'
      · have df : f i = false := by cases z : f i <;> simp_all
        rw [if_neg d] at ih'
        simp only [f_Descent_chosen_L4, hC.1, if_neg c1, if_pos (hb.mpr df), f_Descent_chosen_L54, hw]
        exact ih'
theorem chosen_eq {G : GS} {F : Fam} (hF : FOK F) (hC : FC G F) {S : Int} {f : Nat → Bool} (hS : SbK S f F.2.2.2) {g : Nat} (hg : bsN F f F.2.2.2 = some g) : f_Descent_chosen G S = some (g : Int) := by
  have := chosen_L hF hC hS FU 0 (by omega) (by have := hF.1; unfold FU; omega)
  rw [hg, show max 0 (oI (some g)) = (g : Int) from by show max 0 (g : Int) = g; omega] at this
  exact this
theorem thr_L {G : GS} {F : Fam} (hF : FOK F) (hC : FC G F) {S : Int} {f : Nat → Bool} (hS : SbK S f F.2.2.2) : ∀ (n i : Nat) (L : Int), i ≤ F.2.2.2 → F.2.2.2 - i < n → wr L = L → (∀ j, j < 32 → tb L j = anyB (fun c => f c && tb (gi G 31 c) j) i) → ∃ L1, f_Descent_lineThrough_L23 G n S L i = some L1 ∧ wr L1 = L1 ∧ ∀ j, j < 32 → tb L1 j = anyB (fun c => f c && tb (gi G 31 c) j) F.2.2.2 := by
  have hN := hF.1
  intro n
  induction n with
  | zero => intro i L q1 q2; omega
  | succ n ih =>
    intro i L q1 q2 hL hb
    by_cases c1 : (F.2.2.2 : Int) ≤ i
    · have : i = F.2.2.2 := by omega
      subst this
      exact ⟨L, by simp only [f_Descent_lineThrough_L23, hC.1, if_pos c1], hL, hb⟩
    · have hw : wr ((i : Int) + 1) = ((i + 1 : Nat) : Int) := by rw [wr_of (by omega) (by omega)]; omega
      have hbit := S_bit hS (show i < F.2.2.2 by omega) hN
      by_cases d : f i = true
      · have hnb : ¬ bAnd S (bShl 1 (i : Int)) = 0 := fun z => by rw [hbit, d] at z; cases z
        simp only [f_Descent_lineThrough_L23, hC.1, if_neg c1, if_neg hnb, gd, if_pos (show (0 : Int) ≤ (i : Int) ∧ (i : Int) < 33 by omega), Int.toNat_natCast, f_Descent_lineThrough_L53, hw]
        refine ih (i + 1) _ (by omega) (by omega) (wr_or _ _) (fun j hj => ?_)
        rw [tb_or, hb j hj, anyB, d, Bool.true_and]
      · have df : f i = false := by cases z : f i <;> simp_all
        simp only [f_Descent_lineThrough_L23, hC.1, if_neg c1, if_pos (hbit.mpr df), f_Descent_lineThrough_L53, hw]
        refine ih (i + 1) _ (by omega) (by omega) (wr_or _ _) (fun j hj => ?_)
        rw [tb_or, hb j hj, anyB, df, Bool.false_and, tb_0]
