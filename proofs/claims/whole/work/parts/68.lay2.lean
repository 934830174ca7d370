/-! the lines laid, all of them, and what the dead one leaves -/
def LinOK (G : GS) (F : Fam) (c : Nat) : Prop := ∀ j, j < 32 → tb (gi G 31 c) j = (decide (j < F.2.2.2) && decide (0 < (vv F j 0 c).1))
def StkOK (G : GS) (F : Fam) (c : Nat) : Prop := (alv F c = true → gi G 32 c = 0) ∧ (¬ alv F c = true → SbK (gi G 32 c) (stk F c (-1)) F.2.2.2)
theorem Lin_hl {G : GS} {F : Fam} (hF : FOK F) {c : Nat} (hc : c < F.2.2.2) (h : LinOK G F c) : gi G 31 c ≠ 0 ↔ hl F c = true := by
  have hN := hF.1
  rw [hl_pos hF F.2.2.2 0 (by omega) c (by omega) hc]
  constructor
  · intro a
    refine Classical.byContradiction fun b => a ((z_iff (wr_gi _ _ _)).mpr fun i hi => ?_)
    rw [h i hi]
    by_cases z : i < F.2.2.2
    · rw [decide_eq_false (show ¬ 0 < (vv F i 0 c).1 from fun y => b ⟨i, z, y⟩), Bool.and_false]
    · rw [decide_eq_false z, Bool.false_and]
  · rintro ⟨i, a, b⟩ z
    have := (z_iff (wr_gi _ _ _)).mp z i (by omega)
    rw [h i (by omega), decide_eq_true a, decide_eq_true b] at this
    cases this
theorem one_eq {G : GS} {F : Fam} (hF : FOK F) (hC : FC G F) {p q : Nat} {but : Int} {S : Int} (hS : SbK S (stk F p but) F.2.2.2) (hm : MenOK G F q) (hq : q ≤ p + 1) : f_Descent_oneTakesAll G S = some (if hasS F p but = true ∧ F.2.2.1 ≠ 2 then 1 else 0) := by
  have h := SbK_men hF hS hm hq
  unfold f_Descent_oneTakesAll
  rw [hC.2.2.2]
  by_cases c1 : F.2.2.1 = 2
  · rw [if_pos c1, if_neg (fun z => z.2 c1)]
  · rw [if_neg c1]
    by_cases c2 : bAnd S (gi G 30 3) = 0
    · rw [if_pos c2, if_neg (fun z => by rw [h.mp c2] at z; cases z.1)]
    · rw [if_neg c2]
      have : hasS F p but = true := by
        cases y : hasS F p but
        · exact absurd (h.mpr y) c2
        · rfl
      rw [if_pos ⟨this, c1⟩]
theorem has_some {F : Fam} {p : Nat} {but : Int} (h : hasS F p but = true) : ∃ g, bsN F (stk F p but) F.2.2.2 = some g ∧ g < F.2.2.2 ∧ stk F p but g = true := by
  obtain ⟨i, h1, h2⟩ := anyB_t.mp h
  unfold son at h2
  have h3 := Bool.and_eq_true_iff.mp h2
  have h4 : stk F p but i = true := by unfold stk; rw [h3.1, h3.2]; rfl
  cases hb : bsN F (stk F p but) F.2.2.2 with
  | none =>
    have := (bsN_s F.2.2.2).1 hb i h1
    rw [this] at h4; cases h4
  | some g =>
    have := (bsN_s F.2.2.2).2 g hb
    exact ⟨g, rfl, this.1, this.2.1⟩
theorem thr_eq {G : GS} {F : Fam} (hF : FOK F) (hC : FC G F) {p q : Nat} {but : Int} {S : Int} (hS : SbK S (stk F p but) F.2.2.2) (hm : MenOK G F q) (hq : q ≤ p + 1) (hL : ∀ c, p < c → c < F.2.2.2 → LinOK G F c) : ∃ L, f_Descent_lineThrough G S = some L ∧ wr L = L ∧ ∀ j, j < 32 → tb L j = (decide (j < F.2.2.2) && kp F (fun c => decide (0 < (vv F j 0 c).1)) p but) := by
  have hN := hF.1
  have h1 := one_eq hF hC hS hm hq
  by_cases c : hasS F p but = true ∧ F.2.2.1 ≠ 2
  · rw [if_pos c] at h1
    obtain ⟨g, hg, g1, g2⟩ := has_some c.1
    refine ⟨gi G 31 g, ?_, wr_gi _ _ _, fun j hj => ?_⟩
    · simp only [f_Descent_lineThrough, h1, Option.bind_some, if_neg (show ¬ (1 : Int) = 0 by decide), chosen_eq hF hC hS hg, gd, if_pos (show (0 : Int) ≤ (g : Int) ∧ (g : Int) < 33 by omega), Int.toNat_natCast]
    · rw [hL g (stk_gt g2).1 g1 j hj]
      unfold kp
      rw [if_pos c, hg]
  · rw [if_neg c] at h1
    obtain ⟨L, l1, l2, l3⟩ := thr_L hF hC hS FU 0 0 (by omega) (by unfold FU; omega) wr_zero (fun j _ => tb_0 j)
    rw [show ((0 : Nat) : Int) = 0 from rfl] at l1
    refine ⟨L, ?_, l2, fun j hj => ?_⟩
    · simp only [f_Descent_lineThrough, h1, Option.bind_some, if_true]
      exact l1
    · rw [l3 j hj]
      unfold kp
      rw [if_neg c]
      by_cases z : j < F.2.2.2
      · rw [decide_eq_true z, Bool.true_and]
        refine anyB_cong fun i hi => ?_
        cases y : stk F p but i
        · rfl
        · rw [hL i (stk_gt y).1 hi j hj, decide_eq_true z, Bool.true_and]
      · rw [decide_eq_false z, Bool.false_and, anyB_f]
        intro i hi
        cases y : stk F p but i
        · rfl
        · rw [hL i (stk_gt y).1 hi j hj, decide_eq_false z]; rfl
def Lay (G : GS) (F : Fam) (p : Nat) : Prop := FC G F ∧ MenOK G F p ∧ ∀ c, p ≤ c → c < F.2.2.2 → LinOK G F c ∧ StkOK G F c
def tpF (F : Fam) : Nat → Nat → Int → Option (Nat × Int)
  | 0, _, _ => none
  | n + 1, t, b => if anyB (stk F t b) F.2.2.2 = true then some (t, b) else if F.1 3 t = -1 then none else tpF F n (F.1 3 t).toNat (t : Int)
def tps (F : Fam) (dead : Nat) : Option (Nat × Int) := tpF F 33 dead (-1)
def eS (F : Fam) (o : Option (Nat × Int)) (i : Nat) : Bool := match o with
  | none => false
  | some t => stk F t.1 t.2 i
def ev (F : Fam) (q : Nat) (way : Int) (o : Option (Nat × Int)) : Nat × Nat := match o with
  | none => (0, 1)
  | some t => kv F way (vv F q way) t.1 t.2
theorem tp_in {F : Fam} (hF : FOK F) : ∀ n t b r, t < F.2.2.2 → tpF F n t b = some r → r.1 < F.2.2.2 ∧ anyB (stk F r.1 r.2) F.2.2.2 = true := by
  intro n
  induction n with
  | zero => intro t b r _ h; simp [tpF] at h
  | succ n ih =>
    intro t b r ht h
    rw [tpF] at h
    by_cases c : anyB (stk F t b) F.2.2.2 = true
    · rw [if_pos c] at h
      cases h
      exact ⟨ht, c⟩
    · rw [if_neg c] at h
      by_cases d : F.1 3 t = -1
      · rw [if_pos d] at h; cases h
      · rw [if_neg d] at h
        have := (hF.2.2 t ht).2.1
        exact ih _ _ r (by omega) h
theorem near_L {G : GS} {F : Fam} (hF : FOK F) (hL : Lay G F 0) : ∀ (m n t x : Nat) (b : Int) (S : Int), t < F.2.2.2 → t < m → t < n → x + t ≤ 31 → SbK S (stk F t b) F.2.2.2 → ∃ S1, f_Descent_stockNearest_L12 G n S t x = some S1 ∧ SbK S1 (eS F (tpF F m t b)) F.2.2.2 := by
  have hN := hF.1
  intro m
  induction m with
  | zero => intro n t x b S _ h; omega
  | succ m ih =>
    intro n t x b S h1 h2 h3 h4 hS
    obtain ⟨n', rfl⟩ : ∃ n', n = n' + 1 := ⟨n - 1, by omega⟩
    have hz := SbK_z hN hS
    rw [tpF]
    by_cases c : anyB (stk F t b) F.2.2.2 = true
    · rw [if_pos c]
      have hnz : ¬ S = 0 := fun z => by rw [hz.mp z] at c; cases c
      refine ⟨S, ?_, hS⟩
      simp only [f_Descent_stockNearest_L12, if_neg (show ¬ (32 : Int) ≤ x by omega), if_neg hnz]
    · have c' : anyB (stk F t b) F.2.2.2 = false := by cases z : anyB (stk F t b) F.2.2.2 <;> simp_all
      rw [if_neg c]
      have hz' := hz.mpr c'
      have e3 := hL.1.2.1 3 t (by decide) (by decide)
      have g1 : (0 : Int) ≤ (t : Int) ∧ (t : Int) < 32 := by omega
      by_cases d : F.1 3 t = -1
      · rw [if_pos d]
        refine ⟨S, ?_, hS.1, fun i hi => ?_⟩
        · simp only [f_Descent_stockNearest_L12, if_neg (show ¬ (32 : Int) ≤ x by omega), if_pos hz', gd, if_pos g1, Int.toNat_natCast, e3, if_pos d]
        · rw [hz', tb_0]
          show false = (decide (i < F.2.2.2) && false)
          rw [Bool.and_false]
      · rw [if_neg d]
        have hf := (hF.2.2 t h1).2.1
        have hw : wr ((x : Int) + 1) = ((x + 1 : Nat) : Int) := by rw [wr_of (by omega) (by omega)]; omega
        obtain ⟨fa, hfa⟩ : ∃ fa : Nat, F.1 3 t = fa := ⟨(F.1 3 t).toNat, by omega⟩
        obtain ⟨S2, s1, s2⟩ := stock_eq (but := (t : Int)) hF hL.1 (p := fa) (q := 0) (by omega) (by omega) hL.2.1 (fun c _ hc => Lin_hl hF hc (hL.2.2 c (by omega) hc).1)
        obtain ⟨S1, r1, r2⟩ := ih n' fa (x + 1) (t : Int) S2 (by omega) (by omega) (by omega) (by omega) s2
        rw [hfa, Int.toNat_natCast]
        refine ⟨S1, ?_, r2⟩
        simp only [f_Descent_stockNearest_L12, if_neg (show ¬ (32 : Int) ≤ x by omega), if_pos hz', gd, if_pos g1, Int.toNat_natCast, e3, if_neg d]
        rw [hfa, s1, Option.bind_some, hw]
        exact r1
def LayE (G : GS) (F : Fam) (dead : Nat) : Prop := Lay G F 0 ∧ SbK (gi G 32 32) (eS F (tps F dead)) F.2.2.2 ∧ ∀ j, j < 32 → tb (gi G 31 32) j = (decide (j < F.2.2.2) && decide (0 < (ev F j 0 (tps F dead)).1))
theorem Lay_fr {G G' : GS} {F : Fam} {p : Nat} (hi : ∀ c k, (c = 31 ∧ k = 32) ∨ (c = 32 ∧ k = 32) ∨ gi G' c k = gi G c k) (hN : F.2.2.2 ≤ 32) (h : Lay G F p) : Lay G' F p := by
  have e : ∀ c k, ¬ (c = 31 ∧ k = 32) → ¬ (c = 32 ∧ k = 32) → gi G' c k = gi G c k := fun c k a b => by
    rcases hi c k with z | z | z
    · exact absurd z a
    · exact absurd z b
    · exact z
  obtain ⟨h1, h2, h3⟩ := h
  refine ⟨FC_fr (fun c k a b _ => e c k (by omega) (by omega)) h1, fun i hi => by rw [e 30 3 (by omega) (by omega)]; exact h2 i hi, fun c a b => ⟨fun j hj => by rw [e 31 c (by omega) (by omega)]; exact (h3 c a b).1 j hj, fun y => by rw [e 32 c (by omega) (by omega)]; exact (h3 c a b).2.1 y, fun y => by rw [e 32 c (by omega) (by omega)]; exact (h3 c a b).2.2 y⟩⟩
theorem lay_end {G : GS} {F : Fam} (hF : FOK F) (hL : Lay G F 0) {dead : Nat} (hd : dead < F.2.2.2) (n : Nat) {x : Int} (hx : x < 0) : ∃ G1, f_Descent_lay_L26 (n + 1) G dead x = some G1 ∧ (∀ c k, ¬ (30 ≤ c ∧ c ≤ 32) → gi G1 c k = gi G c k) ∧ (∀ c k, gp G1 c k = gp G c k) ∧ LayE G1 F dead := by
  have hN := hF.1
  obtain ⟨S0, s1, s2⟩ := stock_eq (but := -1) hF hL.1 (p := dead) (q := 0) (by omega) (by omega) hL.2.1 (fun c _ hc => Lin_hl hF hc (hL.2.2 c (by omega) hc).1)
  obtain ⟨S, r1, r2⟩ := near_L hF hL 33 FU dead 0 (-1) S0 hd (by omega) (by unfold FU; omega) (by omega) s2
  have hne : f_Descent_stockNearest G dead = some S := by
    unfold f_Descent_stockNearest
    rw [s1, Option.bind_some]
    exact r1
  have v1 : gi (si G 32 32 S) 32 32 = S := by rw [gi_si, if_pos ⟨rfl, rfl⟩]; exact r2.1
  have v2 : ∀ c k, ¬ (c = 32 ∧ k = 32) → gi (si G 32 32 S) c k = gi G c k := fun c k z => by rw [gi_si, if_neg z]
  have v3 : ∀ c k, gp (si G 32 32 S) c k = gp G c k := fun _ _ => rfl
  have e1 : f_Descent_lay_L26 (n + 1) G dead x = (f_Descent_lineThrough (si G 32 32 S) S).bind fun q2 => some (si (si G 32 32 S) 31 32 q2) := by
    simp only [f_Descent_lay_L26, if_pos hx, hne, Option.bind_some, wG, v1]
  rw [e1]
  generalize si G 32 32 S = G1 at *
  have hL1 : Lay G1 F 0 := Lay_fr (fun c k => by
    by_cases z : c = 32 ∧ k = 32
    · exact Or.inr (Or.inl z)
    · exact Or.inr (Or.inr (v2 c k z))) hN hL
  have hLn : ∃ L, f_Descent_lineThrough G1 S = some L ∧ wr L = L ∧ ∀ j, j < 32 → tb L j = (decide (j < F.2.2.2) && decide (0 < (ev F j 0 (tps F dead)).1)) := by
    cases ht : tps F dead with
    | none =>
      have r3 : SbK S (eS F none) F.2.2.2 := by rw [← ht]; exact r2
      have hz : S = 0 := (SbK_z hN r3).mpr (anyB_f.mpr fun i _ => rfl)
      have hb : bAnd S (gi G1 30 3) = 0 := by rw [hz, and_z]; intro i _ q; rw [tb_0] at q; cases q.1
      have ho : f_Descent_oneTakesAll G1 S = some 0 := by
        unfold f_Descent_oneTakesAll
        rw [if_pos hb]
        split <;> rfl
      obtain ⟨L, l1, l2, l3⟩ := thr_L hF hL1.1 r3 FU 0 0 (by omega) (by unfold FU; omega) wr_zero (fun j _ => tb_0 j)
      rw [show ((0 : Nat) : Int) = 0 from rfl] at l1
      refine ⟨L, ?_, l2, fun j hj => ?_⟩
      · simp only [f_Descent_lineThrough, ho, Option.bind_some, if_true]
        exact l1
      · rw [l3 j hj]
        have : anyB (fun c => eS F none c && tb (gi G1 31 c) j) F.2.2.2 = false := anyB_f.mpr fun i _ => rfl
        have e0 : decide (0 < (ev F j 0 none).1) = false := rfl
        rw [this, e0, Bool.and_false]
    | some t =>
      have r3 : SbK S (stk F t.1 t.2) F.2.2.2 := by
        have : SbK S (eS F (some t)) F.2.2.2 := by rw [← ht]; exact r2
        exact this
      obtain ⟨L, l1, l2, l3⟩ := thr_eq hF hL1.1 r3 hL1.2.1 (by omega) (fun c _ hc => (hL1.2.2 c (by omega) hc).1)
      refine ⟨L, l1, l2, fun j hj => ?_⟩
      rw [l3 j hj]
      show _ = (decide (j < F.2.2.2) && decide (0 < (kv F 0 (vv F j 0) t.1 t.2).1))
      rw [kv_pos (fun c _ hc => vv_g hF j 0 hc)]
  obtain ⟨L, l1, l2, l3⟩ := hLn
  rw [l1, Option.bind_some]
  have u1 : gi (si G1 31 32 L) 31 32 = L := by rw [gi_si, if_pos ⟨rfl, rfl⟩]; exact l2
  have u2 : ∀ c k, ¬ (c = 31 ∧ k = 32) → gi (si G1 31 32 L) c k = gi G1 c k := fun c k z => by rw [gi_si, if_neg z]
  refine ⟨_, rfl, fun c k z => by rw [u2 c k (by omega), v2 c k (by omega)], v3, Lay_fr (fun c k => ?_) hN hL1, ?_, fun j hj => by rw [u1]; exact l3 j hj⟩
  · by_cases z : c = 31 ∧ k = 32
    · exact Or.inl z
    · exact Or.inr (Or.inr (u2 c k z))
  · rw [u2 32 32 (by omega), v1]; exact r2
theorem alv_C {G : GS} {F : Fam} (hF : FOK F) (hC : FC G F) {p : Nat} (hp : p < F.2.2.2) : f_People_isAlive G p (gi G 30 1) = some (if alv F p = true then 1 else 0) := by
  have hN := hF.1
  rw [alive_H _ _ (by rw [hC.1]; omega), Int.toNat_natCast, hC.2.1 5 p (by decide) (by decide), hC.2.1 7 p (by decide) (by decide), hC.2.2.1, hC.1]
  unfold alv
  simp only [decide_eq_true_eq]
  by_cases c : F.1 5 p ≤ F.2.1 ∧ (F.1 7 p = -1 ∨ F.2.1 < F.1 7 p)
  · rw [if_pos c, if_pos ⟨by omega, by omega, c.1, c.2⟩]
  · rw [if_neg c, if_neg (fun z => c ⟨z.2.2.1, z.2.2.2⟩)]
theorem lay_step {G : GS} {F : Fam} (hF : FOK F) {p : Nat} (hp : p < F.2.2.2) (hL : Lay G F (p + 1)) {dead : Int} (n : Nat) : ∃ G1, f_Descent_lay_L26 (n + 1) G dead p = f_Descent_lay_L26 n G1 dead ((p : Int) - 1) ∧ (∀ c k, ¬ (30 ≤ c ∧ c ≤ 32) → gi G1 c k = gi G c k) ∧ (∀ c k, gp G1 c k = gp G c k) ∧ Lay G1 F p := by
  have hN := hF.1
  obtain ⟨hC, hm, hl⟩ := hL
  have g1 : (0 : Int) ≤ (p : Int) ∧ (p : Int) < 32 := by omega
  have g2 : (0 : Int) ≤ (p : Int) ∧ (p : Int) < 33 := by omega
  have hw : wr ((p : Int) + (-1)) = (p : Int) - 1 := by rw [wr_of (by omega) (by omega)]; omega
  have e2 := hC.2.1 2 p (by decide) (by decide)
  -- men
  obtain ⟨s, hs1, hs2⟩ : ∃ s : Int, f_Descent_lay_L26 (n + 1) G dead p = f_Descent_lay_L57 (f_Descent_lay_L26 n) G dead p s (gi G 30 3) ∧ ∀ i, i < 32 → tb s i = (decide (i = p) && decide (F.1 2 p = 0)) := by
    by_cases c : F.1 2 p = 0
    · refine ⟨bShl 1 (p : Int), ?_, fun i hi => by rw [tb_shl (by omega), decide_eq_true c, Bool.and_true]⟩
      simp only [f_Descent_lay_L26, if_neg (show ¬ (p : Int) < 0 by omega), gd, if_pos g1, Int.toNat_natCast, e2, if_pos c]
    · refine ⟨0, ?_, fun i hi => by rw [tb_0, decide_eq_false c, Bool.and_false]⟩
      simp only [f_Descent_lay_L26, if_neg (show ¬ (p : Int) < 0 by omega), gd, if_pos g1, Int.toNat_natCast, e2, if_neg c]
  have v1 : gi (si G 30 3 (bOr (gi G 30 3) s)) 30 3 = bOr (gi G 30 3) s := by rw [gi_si, if_pos ⟨rfl, rfl⟩]; exact wr_or _ _
  have v2 : ∀ c k, ¬ (c = 30 ∧ k = 3) → gi (si G 30 3 (bOr (gi G 30 3) s)) c k = gi G c k := fun c k z => by rw [gi_si, if_neg z]
  have v3 : ∀ c k, gp (si G 30 3 (bOr (gi G 30 3) s)) c k = gp G c k := fun _ _ => rfl
  rw [hs1]
  simp only [f_Descent_lay_L57, wG]
  generalize si G 30 3 (bOr (gi G 30 3) s) = G1 at *
  have hC1 : FC G1 F := FC_fr (fun c k a b d => v2 c k d) hC
  have hm1 : MenOK G1 F p := fun i hi => by
    rw [v1, tb_or, hm i hi, hs2 i hi]
    by_cases z : i = p
    · subst z
      rw [decide_eq_false (show ¬ (i + 1 ≤ i ∧ i < F.2.2.2) by omega), decide_eq_true (show i = i from rfl), decide_eq_true (show i ≤ i ∧ i < F.2.2.2 by omega), Bool.false_and, Bool.false_or]
    · rw [decide_eq_false z, Bool.false_and, Bool.or_false]
      by_cases y : p + 1 ≤ i ∧ i < F.2.2.2
      · rw [decide_eq_true y, decide_eq_true (show p ≤ i ∧ i < F.2.2.2 by omega)]
      · rw [decide_eq_false y, decide_eq_false (show ¬ (p ≤ i ∧ i < F.2.2.2) by omega)]
  have ha := alv_C hF hC1 hp
  have key : ∀ (x5 st : Int), wr st = st → (x5 = 0 ↔ ¬ alv F p = true) → ((alv F p = true → st = 0) ∧ (¬ alv F p = true → SbK st (stk F p (-1)) F.2.2.2)) → ∃ G2, f_Descent_lay_L98 (f_Descent_lay_L26 n) G1 dead p x5 st p = f_Descent_lay_L26 n G2 dead ((p : Int) - 1) ∧ (∀ c k, ¬ (30 ≤ c ∧ c ≤ 32) → gi G2 c k = gi G c k) ∧ (∀ c k, gp G2 c k = gp G c k) ∧ Lay G2 F p := by
    intro x5 st hst hx hsk
    have u1 : gi (si G1 32 p st) 32 p = st := by rw [gi_si, if_pos ⟨rfl, rfl⟩]; exact hst
    have u2 : ∀ c k, ¬ (c = 32 ∧ k = p) → gi (si G1 32 p st) c k = gi G1 c k := fun c k z => by rw [gi_si, if_neg z]
    have u3 : ∀ c k, gp (si G1 32 p st) c k = gp G1 c k := fun _ _ => rfl
    simp only [f_Descent_lay_L98, gd, if_pos g2, wG, Int.toNat_natCast, u1]
    generalize si G1 32 p st = G2 at *
    have hC2 : FC G2 F := FC_fr (fun c k a b d => u2 c k (by omega)) hC1
    have hm2 : MenOK G2 F p := fun i hi => by rw [u2 30 3 (by omega)]; exact hm1 i hi
    have hl2 : ∀ c, p < c → c < F.2.2.2 → LinOK G2 F c := fun c a b j hj => by rw [u2 31 c (by omega), v2 31 c (by omega)]; exact (hl c (by omega) b).1 j hj
    have fin : ∀ L : Int, wr L = L → (∀ j, j < 32 → tb L j = (decide (j < F.2.2.2) && decide (0 < (vv F j 0 p).1))) → ∃ G3, f_Descent_lay_L128 (f_Descent_lay_L26 n) G2 dead p L p = f_Descent_lay_L26 n G3 dead ((p : Int) - 1) ∧ (∀ c k, ¬ (30 ≤ c ∧ c ≤ 32) → gi G3 c k = gi G c k) ∧ (∀ c k, gp G3 c k = gp G c k) ∧ Lay G3 F p := by
      intro L hL1 hL2
      have t1 : gi (si G2 31 p L) 31 p = L := by rw [gi_si, if_pos ⟨rfl, rfl⟩]; exact hL1
      have t2 : ∀ c k, ¬ (c = 31 ∧ k = p) → gi (si G2 31 p L) c k = gi G2 c k := fun c k z => by rw [gi_si, if_neg z]
      have t3 : ∀ c k, gp (si G2 31 p L) c k = gp G2 c k := fun _ _ => rfl
      simp only [f_Descent_lay_L128, gd, if_pos g2, wG, Int.toNat_natCast, hw]
      generalize si G2 31 p L = G3 at *
      refine ⟨G3, rfl, fun c k z => by rw [t2 c k (by omega), u2 c k (by omega), v2 c k (by omega)], fun c k => by rw [t3, u3, v3], FC_fr (fun c k a b d => t2 c k (by omega)) hC2, fun i hi => by rw [t2 30 3 (by omega)]; exact hm2 i hi, fun c a b => ?_⟩
      by_cases z : c = p
      · subst z
        refine ⟨fun j hj => by rw [t1]; exact hL2 j hj, ?_⟩
        unfold StkOK
        rw [t2 32 c (by omega), u1]
        exact hsk
      · refine ⟨fun j hj => by rw [t2 31 c (by omega)]; exact hl2 c (by omega) b j hj, ?_⟩
        unfold StkOK
        rw [t2 32 c (by omega), u2 32 c (by omega), v2 32 c (by omega)]
        exact (hl c (by omega) b).2
    by_cases c : alv F p = true
    · rw [if_neg (fun z => (hx.mp z) c)]
      refine fin _ (wr_shl _ _) (fun j hj => ?_)
      rw [tb_shl (by omega), vv_eq, if_pos c]
      by_cases z : j = p
      · subst z
        rw [decide_eq_true (show j = j from rfl), decide_eq_true hp, if_pos rfl]; rfl
      · rw [decide_eq_false z, if_neg (fun y => z y.symm), decide_eq_false (show ¬ 0 < 0 by decide), Bool.and_false]
    · rw [if_pos (hx.mpr c)]
      obtain ⟨L, l1, l2, l3⟩ := thr_eq hF hC2 (hsk.2 c) hm2 (by omega) hl2
      rw [l1, Option.bind_some]
      refine fin L l2 (fun j hj => ?_)
      rw [l3 j hj, vv_eq, if_neg c, kv_pos (fun c _ hc => vv_g hF j 0 hc)]
  by_cases c : alv F p = true
  · rw [if_pos c] at ha
    rw [ha, Option.bind_some, if_neg (by decide)]
    exact key 1 0 wr_zero ⟨fun z => absurd z (by decide), fun z => absurd c z⟩ ⟨fun _ => rfl, fun z => absurd c z⟩
  · rw [if_neg c] at ha
    obtain ⟨S, s1, s2⟩ := stock_eq (but := -1) hF hC1 (p := p) (q := p) (by omega) (by omega) hm1 (fun c a b => Lin_hl hF b (fun j hj => by rw [v2 31 c (by omega)]; exact (hl c (by omega) b).1 j hj))
    rw [ha, Option.bind_some, if_pos rfl, s1, Option.bind_some]
    exact key 0 S s2.1 ⟨fun _ => c, fun _ => rfl⟩ ⟨fun z => absurd z c, fun _ => s2⟩
theorem lay_L {F : Fam} (hF : FOK F) {dead : Nat} (hd : dead < F.2.2.2) : ∀ (p n : Nat) (G : GS), p ≤ F.2.2.2 → p < n → Lay G F p → ∃ G1, f_Descent_lay_L26 n G dead ((p : Int) - 1) = some G1 ∧ (∀ c k, ¬ (30 ≤ c ∧ c ≤ 32) → gi G1 c k = gi G c k) ∧ (∀ c k, gp G1 c k = gp G c k) ∧ LayE G1 F dead := by
  intro p
  induction p with
  | zero =>
    intro n G _ hn hL
    obtain ⟨n', rfl⟩ : ∃ n', n = n' + 1 := ⟨n - 1, by omega⟩
    exact lay_end hF hL hd n' (by omega)
  | succ p ih =>
    intro n G hp hn hL
    obtain ⟨n', rfl⟩ : ∃ n', n = n' + 1 := ⟨n - 1, by omega⟩
    rw [show ((p + 1 : Nat) : Int) - 1 = (p : Int) by omega]
    obtain ⟨G1, r1, r2, r3, r4⟩ := lay_step hF (by omega) hL (dead := (dead : Int)) n'
    obtain ⟨G2, u1, u2, u3, u4⟩ := ih n' G1 (by omega) (by omega) r4
    exact ⟨G2, r1.trans u1, fun c k z => (u2 c k z).trans (r2 c k z), fun c k => (u3 c k).trans (r3 c k), u4⟩
/-- what is asked of the store before the lines are laid -/
def FB (G : GS) (F : Fam) : Prop := gi G 1 7 = F.2.2.2 ∧ ∀ c k, 2 ≤ c → c ≤ 7 → gi G c k = F.1 c k
theorem layC_eq {G : GS} {F : Fam} (hF : FOK F) (hB : FB G F) (hD : wr F.2.1 = F.2.1) {dead : Nat} (hd : dead < F.2.2.2) : ∃ G1, f_Descent_lay G dead F.2.1 F.2.2.1 = some G1 ∧ (∀ c k, ¬ (30 ≤ c ∧ c ≤ 32) → gi G1 c k = gi G c k) ∧ (∀ c k, gp G1 c k = gp G c k) ∧ LayE G1 F dead := by
  have hN := hF.1
  have hCu : wr F.2.2.1 = F.2.2.1 := wr_of (by have := hF.2.1; omega) (by have := hF.2.1; omega)
  have a1 : gi (si (si (si G 30 1 F.2.1) 30 2 F.2.2.1) 30 3 0) 30 1 = F.2.1 := by simp [gi_si, hD]
  have a2 : gi (si (si (si G 30 1 F.2.1) 30 2 F.2.2.1) 30 3 0) 30 2 = F.2.2.1 := by simp [gi_si, hCu]
  have a3 : gi (si (si (si G 30 1 F.2.1) 30 2 F.2.2.1) 30 3 0) 30 3 = 0 := by simp [gi_si, wr_zero]
  have v2 : ∀ c k, c ≠ 30 → gi (si (si (si G 30 1 F.2.1) 30 2 F.2.2.1) 30 3 0) c k = gi G c k := fun c k z => by rw [gi_ne z, gi_ne z, gi_ne z]
  have v3 : ∀ c k, gp (si (si (si G 30 1 F.2.1) 30 2 F.2.2.1) 30 3 0) c k = gp G c k := fun _ _ => rfl
  unfold f_Descent_lay
  simp only [wG]
  generalize si (si (si G 30 1 F.2.1) 30 2 F.2.2.1) 30 3 0 = G1 at *
  have e1 : gi G1 1 7 = F.2.2.2 := by rw [v2 1 7 (by decide)]; exact hB.1
  rw [e1, wr_of (by omega) (by omega)]
  have hL : Lay G1 F F.2.2.2 := ⟨⟨e1, fun c k x y => by rw [v2 c k (by omega)]; exact hB.2 c k x y, a1, a2⟩, fun i hi => by
    rw [a3, tb_0, decide_eq_false (show ¬ (F.2.2.2 ≤ i ∧ i < F.2.2.2) by omega), Bool.false_and], fun c x y => by omega⟩
  obtain ⟨G2, u1, u2, u3, u4⟩ := lay_L hF hd F.2.2.2 FU G1 (Nat.le_refl _) (by unfold FU; omega) hL
  exact ⟨G2, u1, fun c k z => by rw [u2 c k z, v2 c k (by omega)], fun c k => by rw [u3, v3], u4⟩
