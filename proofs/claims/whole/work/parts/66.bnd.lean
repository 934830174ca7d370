/-! the family: bounds -/
def slt (F : Fam) (j c : Nat) : Nat := (if (j : Int) ≤ F.1 3 c then 1 else 0) + (if (j : Int) ≤ F.1 4 c then 1 else 0)
def tt (F : Fam) (j : Nat) : Nat := fb_sm (slt F j) F.2.2.2
theorem tt_le {F : Fam} (h : FOK F) (j : Nat) : tt F j ≤ 2 * (F.2.2.2 - 1 - j) := by
  rw [← sm_two]
  refine fb_sm_le fun c hc => ?_
  have := h.2.2 c hc
  unfold slt
  by_cases z : j < c
  · rw [if_pos z]; split <;> split <;> omega
  · rw [if_neg z, if_neg (by omega), if_neg (by omega)]; exact Nat.le_refl _
theorem chl_in {F : Fam} {c p : Nat} (h : chl F c p = true) : F.1 3 c = p ∨ F.1 4 c = p := by
  unfold chl at h
  exact (of_decide_eq_true h).1
theorem tt_step (F : Fam) (j : Nat) (but : Int) : tt F (j + 1) + fb_ct (stk F j but) F.2.2.2 ≤ tt F j := by
  unfold tt
  rw [← sm_ct, ← fb_sm_add]
  refine fb_sm_le fun c hc => ?_
  unfold slt
  by_cases z : stk F j but c = true
  · have := chl_in (stk_gt z).2.2.1
    rw [if_pos z]
    rcases this with q | q
    · rw [if_neg (show ¬ ((j + 1 : Nat) : Int) ≤ F.1 3 c by omega), if_pos (show (j : Int) ≤ F.1 3 c by omega)]
      split <;> split <;> omega
    · rw [if_neg (show ¬ ((j + 1 : Nat) : Int) ≤ F.1 4 c by omega), if_pos (show (j : Int) ≤ F.1 4 c by omega)]
      split <;> split <;> omega
  · rw [if_neg z]
    split <;> split <;> split <;> split <;> omega
theorem tt_kids {F : Fam} (h : FOK F) (p : Nat) (but : Int) : tt F (p + 1) + (fb_ct (stk F p but) F.2.2.2 - 1) ≤ 2 * (F.2.2.2 - 1 - (p + 1)) := by
  have e1 : fb_ct (stk F p but) F.2.2.2 - 1 ≤ fb_ct (fun c => stk F p but c && decide (p + 1 < c)) F.2.2.2 := by
    have key : ∀ n, fb_ct (stk F p but) n ≤ fb_ct (fun c => stk F p but c && decide (p + 1 < c)) n + (if p + 1 < n then 1 else 0) := by
      intro n
      induction n with
      | zero => simp [fb_ct]
      | succ n ih =>
        rw [fb_ct_succ, fb_ct_succ]
        by_cases z : stk F p but n = true
        · have := (stk_gt z).1
          rw [if_pos z]
          by_cases y : p + 1 < n
          · rw [if_pos y] at ih
            rw [if_pos (by rw [z, decide_eq_true y]; rfl), if_pos (by omega)]
            omega
          · rw [if_neg y] at ih
            rw [if_neg (by rw [decide_eq_false y, Bool.and_false]; decide), if_pos (by omega)]
            omega
        · rw [if_neg z, if_neg (by intro q; exact z (Bool.and_eq_true_iff.mp q).1)]
          split at ih <;> split <;> omega
    have := key F.2.2.2
    split at this <;> omega
  have e2 : tt F (p + 1) + fb_ct (fun c => stk F p but c && decide (p + 1 < c)) F.2.2.2 ≤ 2 * (F.2.2.2 - 1 - (p + 1)) := by
    unfold tt
    rw [← sm_ct, ← fb_sm_add, ← sm_two]
    refine fb_sm_le fun c hc => ?_
    have hc3 := h.2.2 c hc
    unfold slt
    by_cases y : p + 1 < c
    · rw [if_pos y, decide_eq_true y, Bool.and_true]
      by_cases z : stk F p but c = true
      · have := chl_in (stk_gt z).2.2.1
        rw [if_pos z]
        rcases this with q | q
        · rw [if_neg (show ¬ ((p + 1 : Nat) : Int) ≤ F.1 3 c by omega)]
          split <;> omega
        · rw [if_neg (show ¬ ((p + 1 : Nat) : Int) ≤ F.1 4 c by omega)]
          split <;> omega
      · rw [if_neg z]
        split <;> split <;> omega
    · rw [if_neg y, decide_eq_false y, Bool.and_false, if_neg (by omega), if_neg (by omega)]
      exact Nat.le_refl _
  omega
def Bd (F : Fam) (v : Nat → Nat × Nat) (i : Nat) : Prop := ∃ M, 0 < M ∧ M ^ 3 ≤ 3 ^ tt F i ∧ ∀ c, i ≤ c → c < F.2.2.2 → (v c).2 ∣ M
theorem cube3 : ∀ n, n < 40 → n ^ 3 ≤ 3 ^ n := by decide
theorem pow3_mono {a b : Nat} (h : a ≤ b) : (3 : Nat) ^ a ≤ 3 ^ b := Nat.pow_le_pow_right (by decide) h
theorem cube_lt {x e : Nat} (h : x ^ 3 ≤ 3 ^ e) (he : e ≤ 119) : x < 9223372036854775808 := by
  rcases Nat.lt_or_ge x 9223372036854775808 with q | q
  · exact q
  · have a1 : 9223372036854775808 ^ 3 ≤ x ^ 3 := Nat.pow_le_pow_left q 3
    have a2 := pow3_mono he
    have a3 : (3 : Nat) ^ 119 < 9223372036854775808 ^ 3 := by decide +kernel
    omega
theorem kv_div {F : Fam} (hF : FOK F) {way : Int} {v : Nat → Nat × Nat} {p : Nat} {but : Int} (h : ∀ c, p < c → c < F.2.2.2 → Gd (v c)) : Gd (kv F way v p but) ∧ ∀ M, (∀ c, p < c → c < F.2.2.2 → (v c).2 ∣ M) → (kv F way v p but).2 ∣ M * max 1 (fb_ct (stk F p but) F.2.2.2) := by
  unfold kv
  by_cases c : anyB (stk F p but) F.2.2.2 = true
  · rw [if_pos c]
    have hS : ∀ i, i < F.2.2.2 → stk F p but i = true → Gd (v i) := fun i hi hs => h i (stk_gt hs).1 hi
    by_cases d : hasS F p but = true ∧ F.2.2.1 ≠ 2
    · rw [if_pos d]
      cases hp : pk F way (stk F p but) v F.2.2.2 with
      | none => exact ⟨Gd_01, fun M _ => ⟨M * max 1 (fb_ct (stk F p but) F.2.2.2), by simp [pkV]⟩⟩
      | some f =>
        have hf := pkB_in _ hp
        refine ⟨hS f hf.1 hf.2.1, fun M hM => ?_⟩
        exact Nat.dvd_trans (hM f (stk_gt hf.2.1).1 hf.1) ⟨_, rfl⟩
    · rw [if_neg d]
      obtain ⟨i, h1, h2⟩ := anyB_t.mp c
      have hk : 0 < fb_ct (stk F p but) F.2.2.2 := by
        have := fb_ct_mono (stk F p but) (show i + 1 ≤ F.2.2.2 from h1)
        rw [fb_ct_succ, if_pos h2] at this
        omega
      obtain ⟨m1, m2, m3⟩ := mF_g (v := v) F.2.2.2 hS
      refine ⟨(fin_g m1.1 m2 hk ⟨1, (Nat.mul_one _).symm⟩).1, fun M hM => ?_⟩
      rw [show max 1 (fb_ct (stk F p but) F.2.2.2) = fb_ct (stk F p but) F.2.2.2 by omega]
      exact (fin_g m1.1 m2 hk (m3 M (fun i hi hs => hM i (stk_gt hs).1 hi))).2
  · rw [if_neg c]
    exact ⟨Gd_01, fun M _ => ⟨M * max 1 (fb_ct (stk F p but) F.2.2.2), by simp⟩⟩
theorem vv_all {F : Fam} (hF : FOK F) (q : Nat) (way : Int) : ∀ m p, p + m = F.2.2.2 → (∀ c, p ≤ c → c < F.2.2.2 → Gd (vv F q way c)) ∧ ∀ i, p ≤ i → i ≤ F.2.2.2 → Bd F (vv F q way) i := by
  intro m
  induction m with
  | zero => intro p hp; exact ⟨fun c a b => by omega, fun i a b => ⟨1, by decide, by rw [Nat.one_pow]; exact Nat.pow_pos (by decide), fun c x y => by omega⟩⟩
  | succ m ih =>
    intro p hp
    obtain ⟨g, b⟩ := ih (p + 1) (by omega)
    obtain ⟨k1, k2⟩ := kv_div hF (way := way) (v := vv F q way) (p := p) (but := -1) (fun c x y => g c (by omega) y)
    obtain ⟨M, M0, M1, M2⟩ := b (p + 1) (by omega) (by omega)
    have hGp : Gd (vv F q way p) ∧ (vv F q way p).2 ∣ M * max 1 (fb_ct (stk F p (-1)) F.2.2.2) := by
      rw [vv_eq]
      by_cases c : alv F p = true
      · rw [if_pos c]
        refine ⟨⟨⟨Nat.one_pos, Nat.coprime_one_right _⟩, ?_⟩, ⟨_, (Nat.one_mul _).symm⟩⟩
        show (if p = q then 1 else 0) ≤ 1
        split <;> omega
      · rw [if_neg c]
        exact ⟨k1, k2 M (fun c x y => M2 c (by omega) y)⟩
    refine ⟨fun c x y => ?_, fun i x y => ?_⟩
    · by_cases z : c = p
      · rw [z]; exact hGp.1
      · exact g c (by omega) y
    · by_cases z : i = p
      · subst z
        have hn : fb_ct (stk F i (-1)) F.2.2.2 < 40 := by
          have := fb_ct_le (stk F i (-1)) F.2.2.2
          have := hF.1
          omega
        have hstep := tt_step F i (-1)
        have hc := cube3 _ hn
        generalize fb_ct (stk F i (-1)) F.2.2.2 = n at *
        refine ⟨M * max 1 n, Nat.mul_pos M0 (by omega), ?_, fun c x1 y1 => ?_⟩
        · rw [Nat.mul_pow]
          have hmx : (max 1 n) ^ 3 ≤ 3 ^ n := by
            by_cases w : n = 0
            · subst w; decide
            · rw [show max 1 n = n by omega]; exact hc
          have := Nat.mul_le_mul M1 hmx
          rw [← Nat.pow_add] at this
          exact Nat.le_trans this (pow3_mono (by omega))
        · by_cases w : c = i
          · rw [w]; exact hGp.2
          · exact Nat.dvd_trans (M2 c (by omega) y1) ⟨_, rfl⟩
      · exact b i (by omega) y
theorem vv_g {F : Fam} (hF : FOK F) (q : Nat) (way : Int) {p : Nat} (hp : p < F.2.2.2) : Gd (vv F q way p) := (vv_all hF q way (F.2.2.2 - p) p (by omega)).1 p (Nat.le_refl _) hp
theorem vv_b {F : Fam} (hF : FOK F) (q : Nat) (way : Int) {i : Nat} (hi : i ≤ F.2.2.2) : Bd F (vv F q way) i := (vv_all hF q way (F.2.2.2 - i) i (by omega)).2 i (Nat.le_refl _) hi
/-- no sum of parts goes too far -/
theorem no_over {F : Fam} (hF : FOK F) {v : Nat → Nat × Nat} (hB : ∀ i, i ≤ F.2.2.2 → Bd F v i) {p : Nat} {but : Int} {c : Nat} (hc : c < F.2.2.2) (hs : stk F p but c = true) {x : Nat × Nat} (hx : ∀ M, (∀ i, p < i → i < F.2.2.2 → (v i).2 ∣ M) → x.2 ∣ M) (h01 : fb_ct (stk F p but) c = 0 → x.2 = 1) : (fb_ct (stk F p but) c + 1) * (x.2 * (v c).2) < 9223372036854775808 := by
  have hpc := (stk_gt hs).1
  have hN := hF.1
  obtain ⟨M2, a1, a2, a3⟩ := hB c (by omega)
  have hy : (v c).2 ≤ M2 := Nat.le_of_dvd a1 (a3 c (Nat.le_refl _) hc)
  have t2 := tt_le hF c
  by_cases z : fb_ct (stk F p but) c = 0
  · rw [z, h01 z, Nat.zero_add, Nat.one_mul, Nat.one_mul]
    exact Nat.lt_of_le_of_lt hy (cube_lt a2 (by omega))
  · obtain ⟨M1, b1, b2, b3⟩ := hB (p + 1) (by omega)
    have hx1 : x.2 ≤ M1 := Nat.le_of_dvd b1 (hx M1 (fun i h1 h2 => b3 i (by omega) h2))
    have t1 := tt_kids hF p but
    have k1 : fb_ct (stk F p but) c + 1 ≤ fb_ct (stk F p but) F.2.2.2 := by
      have := fb_ct_mono (stk F p but) (show c + 1 ≤ F.2.2.2 from hc)
      rw [fb_ct_succ, if_pos hs] at this
      exact this
    have k2 := ct_from (p := stk F p but) (j := p + 1) (fun i hi => by
      cases w : stk F p but i
      · rfl
      · have := (stk_gt w).1; omega) c
    generalize fb_ct (stk F p but) c = k at *
    have hxy : x.2 * (v c).2 ≤ M1 * M2 := Nat.mul_le_mul hx1 hy
    refine Nat.lt_of_le_of_lt (Nat.mul_le_mul_left (k + 1) hxy) (cube_lt (e := (k + 1) + (tt F (p + 1) + tt F c)) ?_ (by omega))
    rw [Nat.mul_pow, Nat.mul_pow, Nat.pow_add, Nat.pow_add 3 (tt F (p + 1))]
    exact Nat.mul_le_mul (cube3 _ (by omega)) (Nat.mul_le_mul b2 a2)
theorem no_over1 {F : Fam} (hF : FOK F) {v : Nat → Nat × Nat} (hB : ∀ i, i ≤ F.2.2.2 → Bd F v i) {p : Nat} (hp : p < F.2.2.2) {x : Nat × Nat} (hx : ∀ M, (∀ i, p < i → i < F.2.2.2 → (v i).2 ∣ M) → x.2 ∣ M) : x.2 ≤ 3486784401 := by
  obtain ⟨M1, b1, b2, b3⟩ := hB (p + 1) (by omega)
  have hx1 : x.2 ≤ M1 := Nat.le_of_dvd b1 (hx M1 (fun i h1 h2 => b3 i (by omega) h2))
  have t1 := tt_le hF (p + 1)
  have hN := hF.1
  have : M1 ≤ 3486784401 := by
    rcases Nat.lt_or_ge 3486784401 M1 with q | q
    · have a1 : 3486784402 ^ 3 ≤ M1 ^ 3 := Nat.pow_le_pow_left q 3
      have a2 := pow3_mono (show tt F (p + 1) ≤ 60 by omega)
      have a3 : (3 : Nat) ^ 60 < 3486784402 ^ 3 := by decide +kernel
      omega
    · exact q
  omega
theorem no_over2 {F : Fam} (hF : FOK F) {v : Nat → Nat × Nat} (hB : ∀ i, i ≤ F.2.2.2 → Bd F v i) {a b : Nat} (h0 : 0 < a) (hab : a < b) (hb : b < F.2.2.2) : (v a).2 * (v b).2 < 9223372036854775808 := by
  obtain ⟨M1, b1, b2, b3⟩ := hB a (by omega)
  obtain ⟨M2, a1, a2, a3⟩ := hB b (by omega)
  have hx : (v a).2 ≤ M1 := Nat.le_of_dvd b1 (b3 a (Nat.le_refl _) (by omega))
  have hy : (v b).2 ≤ M2 := Nat.le_of_dvd a1 (a3 b (Nat.le_refl _) hb)
  have t1 := tt_le hF a
  have t2 := tt_le hF b
  have hN := hF.1
  refine Nat.lt_of_le_of_lt (Nat.mul_le_mul hx hy) (cube_lt (e := tt F a + tt F b) ?_ (by omega))
  rw [Nat.mul_pow, Nat.pow_add]
  exact Nat.mul_le_mul b2 a2
/-! the one chosen -/
def bsS (F : Fam) (i : Nat) : Option Nat → Option Nat
  | none => some i
  | some f => if older F i f = decide (F.2.2.1 = 0) then some i else some f
def bsN (F : Fam) (S : Nat → Bool) : Nat → Option Nat
  | 0 => none
  | i + 1 => if S i = true then bsS F i (bsN F S i) else bsN F S i
theorem older_tot {F : Fam} {a b : Nat} (h : a ≠ b) : older F a b = !older F b a := by
  unfold older
  by_cases c : F.1 5 a < F.1 5 b ∨ (F.1 5 a = F.1 5 b ∧ (F.1 6 a < F.1 6 b ∨ (F.1 6 a = F.1 6 b ∧ a < b)))
  · rw [decide_eq_true c, decide_eq_false (by omega)]; rfl
  · rw [decide_eq_false c, decide_eq_true (by omega)]; rfl
theorem older_tr {F : Fam} {a b c : Nat} (h1 : older F a b = true) (h2 : older F b c = true) : older F a c = true := by
  unfold older at h1 h2 ⊢
  have h1 := of_decide_eq_true h1
  have h2 := of_decide_eq_true h2
  exact decide_eq_true (by omega)
theorem cnd0 (F : Fam) {i o : Nat} (h : i ≠ o) : cnd F 0 i o = decide (older F i o = decide (F.2.2.1 = 0)) := by
  unfold cnd
  rw [if_pos rfl]
  by_cases c : F.2.2.1 = 0
  · rw [if_pos c, decide_eq_true c]
    cases older F i o <;> rfl
  · rw [if_neg c, decide_eq_false c, older_tot (fun z => h z.symm)]
    cases older F i o <;> rfl
theorem bsN_s {F : Fam} {S : Nat → Bool} : ∀ n, (bsN F S n = none → ∀ i, i < n → S i = false) ∧ ∀ f, bsN F S n = some f → f < n ∧ S f = true ∧ ∀ o, o < n → S o = true → o ≠ f → cnd F 0 f o = true := by
  intro n
  induction n with
  | zero => exact ⟨fun _ i hi => by omega, fun f h => by simp [bsN] at h⟩
  | succ n ih =>
    rw [bsN]
    by_cases c : S n = true
    · rw [if_pos c]
      cases hb : bsN F S n with
      | none =>
        refine ⟨fun h => by simp [bsS] at h, fun f h => ?_⟩
        have : n = f := by simpa [bsS] using h
        subst this
        refine ⟨by omega, c, fun o ho hs hne => ?_⟩
        have := ih.1 hb o (by omega)
        rw [this] at hs; cases hs
      | some g =>
        obtain ⟨g1, g2, g3⟩ := ih.2 g hb
        have hng : n ≠ g := by omega
        unfold bsS
        simp only
        by_cases d : older F n g = decide (F.2.2.1 = 0)
        · rw [if_pos d]
          refine ⟨fun h => by simp at h, fun f h => ?_⟩
          have : n = f := by simpa using h
          subst this
          refine ⟨by omega, c, fun o ho hs hne => ?_⟩
          have e1 : cnd F 0 n g = true := by rw [cnd0 F hng, d]; exact decide_eq_true rfl
          by_cases y : o = g
          · rw [y]; exact e1
          · have e2 := g3 o (by omega) hs y
            unfold cnd at e1 e2 ⊢
            rw [if_pos rfl] at e1 e2 ⊢
            by_cases w : F.2.2.1 = 0
            · rw [if_pos w] at e1 e2 ⊢; exact older_tr e1 e2
            · rw [if_neg w] at e1 e2 ⊢; exact older_tr e2 e1
        · rw [if_neg d]
          refine ⟨fun h => by simp at h, fun f h => ?_⟩
          have : g = f := by simpa using h
          subst this
          refine ⟨by omega, g2, fun o ho hs hne => ?_⟩
          by_cases y : o = n
          · subst y
            rw [cnd0 F (fun z => hne z.symm), older_tot (fun z => hne z.symm)]
            revert d
            cases older F o g <;> cases decide (F.2.2.1 = 0) <;> simp
          · exact g3 o (by omega) hs hne
    · rw [if_neg c]
      refine ⟨fun h i hi => ?_, fun f h => ?_⟩
      · by_cases y : i = n
        · rw [y]; cases z : S n <;> simp_all
        · exact ih.1 h i (by omega)
      · obtain ⟨g1, g2, g3⟩ := ih.2 f h
        refine ⟨by omega, g2, fun o ho hs hne => ?_⟩
        by_cases y : o = n
        · rw [y] at hs; exact absurd hs c
        · exact g3 o (by omega) hs hne
theorem may_of {F : Fam} {way : Int} {S : Nat → Bool} {f : Nat} (h : ∀ o, o < F.2.2.2 → S o = true → o ≠ f → cnd F way f o = true) : may F way S f = true := by
  unfold may
  rw [Bool.not_eq_true', anyB_f]
  intro o ho
  cases c : S o && decide (o ≠ f) && !cnd F way f o
  · rfl
  · simp only [Bool.and_eq_true, decide_eq_true_eq, Bool.not_eq_true'] at c
    have := h o ho c.1.1 c.1.2
    rw [this] at c; cases c.2
theorem may_in {F : Fam} {way : Int} {S : Nat → Bool} {f : Nat} (h : may F way S f = true) {o : Nat} (ho : o < F.2.2.2) (hs : S o = true) (hne : o ≠ f) : cnd F way f o = true := by
  unfold may at h
  rw [Bool.not_eq_true', anyB_f] at h
  have := h o ho
  rw [hs, decide_eq_true hne] at this
  cases c : cnd F way f o
  · rw [c] at this; cases this
  · rfl
/-- the chosen one is the only one that may be, as born -/
theorem pk0 {F : Fam} {S : Nat → Bool} {v : Nat → Nat × Nat} {f : Nat} (hf : bsN F S F.2.2.2 = some f) : pk F 0 S v F.2.2.2 = some f := by
  obtain ⟨g1, g2, g3⟩ := (bsN_s F.2.2.2).2 f hf
  have hm := may_of (way := 0) g3
  have uniq : ∀ i, i < F.2.2.2 → S i = true → may F 0 S i = true → i = f := fun i hi hs hmi => by
    by_cases z : i = f
    · exact z
    · have a := may_in hmi g1 g2 (fun y => z y.symm)
      have b := g3 i hi hs z
      rw [cnd0 F z] at a
      rw [cnd0 F (fun y => z y.symm), older_tot (fun y => z y.symm)] at b
      revert a b
      cases older F i f <;> cases decide (F.2.2.1 = 0) <;> simp
  have key : ∀ n, n ≤ F.2.2.2 → pk F 0 S v n = if f < n then some f else none := by
    intro n
    induction n with
    | zero => intro _; rfl
    | succ n ih =>
      intro hn
      rw [pk, ih (by omega)]
      by_cases c : (S n && may F 0 S n) = true
      · have c' := Bool.and_eq_true_iff.mp c
        have := uniq n (by omega) c'.1 c'.2
        subst this
        rw [if_pos c, if_neg (by omega), if_pos (by omega)]
        rfl
      · rw [if_neg c]
        have hne : n ≠ f := fun z => by rw [z, g2, hm] at c; exact c rfl
        by_cases y : f < n
        · rw [if_pos y, if_pos (by omega)]
        · rw [if_neg y, if_neg (by omega)]
  rw [key _ (Nat.le_refl _), if_pos g1]
/-- by spans at least the one chosen may be -/
theorem pk_ex {F : Fam} (hF : FOK F) {way : Int} {S : Nat → Bool} {v : Nat → Nat × Nat} (h : ∃ i, i < F.2.2.2 ∧ S i = true) : ∃ f, pk F way S v F.2.2.2 = some f ∧ f < F.2.2.2 ∧ S f = true := by
  obtain ⟨i, hi, hs⟩ := h
  cases hb : bsN F S F.2.2.2 with
  | none =>
    have := (bsN_s F.2.2.2).1 hb i hi
    rw [this] at hs; cases hs
  | some f =>
    obtain ⟨g1, g2, g3⟩ := (bsN_s F.2.2.2).2 f hb
    have hm : may F way S f = true := may_of (fun o ho hs hne => by
      have := g3 o ho hs hne
      unfold cnd at this ⊢
      rw [if_pos rfl] at this
      have so := hF.2.2 o ho
      have sf := hF.2.2 f g1
      by_cases w : way = 0
      · rw [if_pos w]; exact this
      · rw [if_neg w]
        by_cases y : F.2.2.1 = 0
        · rw [if_pos y] at this ⊢
          unfold older at this
          have := of_decide_eq_true this
          exact decide_eq_true (by omega)
        · rw [if_neg y] at this ⊢
          unfold older at this
          have := of_decide_eq_true this
          exact decide_eq_true (by omega))
    cases hp : pk F way S v F.2.2.2 with
    | none => exact absurd hp (pk_some _ ⟨f, g1, g2, hm⟩)
    | some g =>
      have := pkB_in _ hp
      exact ⟨g, rfl, this.1, this.2.1⟩
