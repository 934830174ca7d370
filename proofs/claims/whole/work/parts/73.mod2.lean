/-! the reference's parts -/
/-- cells of the reference that its reckoning writes -/
def Mf (G G' : GS) : Prop := (∀ c k, c ≠ 119 → gi G' c k = gi G c k) ∧ ∀ c k, gp G' c k = gp G c k
/-- two longs told: part above, part below; no other long, no int -/
def Ml (G G' : GS) : Prop := (∀ c k, gi G' c k = gi G c k) ∧ (∀ c k, gp G' c k = gp G c k) ∧ ∀ c k, c ≠ 81 → gl G' c k = gl G c k
theorem Ml_sl {k : Nat} {G : GS} {v : Int} : Ml G (sl G 81 k v) := ⟨fun _ _ => rfl, fun _ _ => rfl, fun c' k z => by rw [gl_sl, if_neg (by omega)]⟩
theorem Ml.trans {A B C : GS} (h1 : Ml A B) (h2 : Ml B C) : Ml A C := ⟨fun c k => (h2.1 c k).trans (h1.1 c k), fun c k => (h2.2.1 c k).trans (h1.2.1 c k), fun c k z => (h2.2.2 c k z).trans (h1.2.2 c k z)⟩
def EvM (G : GS) (x : Nat × Nat) : Prop := gl G 81 61 = (x.1 : Int) ∧ gl G 81 62 = (x.2 : Int)
theorem put2 {G : GS} {a b : Nat} (ha : a < 9223372036854775808) (hb : b < 9223372036854775808) : Ml G (sl (sl G 81 61 (a : Int)) 81 62 (b : Int)) ∧ EvM (sl (sl G 81 61 (a : Int)) 81 62 (b : Int)) (a, b) := by
  refine ⟨Ml_sl.trans Ml_sl, ?_, ?_⟩
  · rw [gl_sl, if_neg (by omega), gl_sl, if_pos ⟨rfl, rfl⟩]; exact wl_nat ha
  · rw [gl_sl, if_pos ⟨rfl, rfl⟩]; exact wl_nat hb
theorem like_L {G : GS} {F : Fam} {way : Int} (hF : FOK F) (hM : FMo G F way) {p : Nat} {but s : Int} (hp : p < F.2.2.2) (hh : ∀ c, p < c → c < F.2.2.2 → HlM G F c) (hs : ∀ c, p < c → c < F.2.2.2 → ((kid F p but c = true ∧ F.1 2 c = s) ↔ stk F p but c = true)) {v : Nat → Nat × Nat} (hv : ∀ c, p < c → c < F.2.2.2 → PrtM G v c ∧ Gd (v c)) (hB : ∀ i, i ≤ F.2.2.2 → Bd F v i) (hne : anyB (stk F p but) F.2.2.2 = true) : ∀ (n c : Nat), p < c → c ≤ F.2.2.2 → F.2.2.2 - c < n → ∃ G1, f_Model_likeParts_L11 n G p but s (fb_ct (stk F p but) F.2.2.2 : Int) ((mF (stk F p but) v c).1 : Int) ((mF (stk F p but) v c).2 : Int) c = some G1 ∧ Ml G G1 ∧ EvM G1 (fin (mF (stk F p but) v F.2.2.2) (fb_ct (stk F p but) F.2.2.2)) := by
  have hN := hF.1
  have hgS : ∀ m, m ≤ F.2.2.2 → ∀ i, i < m → stk F p but i = true → Gd (v i) := fun m hm i hi hs => (hv i (stk_gt hs).1 (by omega)).2
  intro n
  induction n with
  | zero => intro c q1 q2 q3; omega
  | succ n ih =>
    intro c q1 q2 q3
    obtain ⟨a1, a2, a3⟩ := mF_g (v := v) c (hgS c q2)
    have hdv : ∀ M, (∀ j, p < j → j < F.2.2.2 → (v j).2 ∣ M) → (mF (stk F p but) v c).2 ∣ M := fun M hM => a3 M (fun j hj hs => hM j (stk_gt hs).1 (by omega))
    by_cases c1 : (F.2.2.2 : Int) ≤ c
    · have : c = F.2.2.2 := by omega
      subst this
      clear ih
      have hk := ct_pos (anyB_t.mp hne)
      have hkl := fb_ct_le (stk F p but) F.2.2.2
      have hb1 := no_over1 hF hB hp hdv
      unfold fin red
      generalize fb_ct (stk F p but) F.2.2.2 = k at *
      generalize mF (stk F p but) v F.2.2.2 = y at *
      have b2 : y.2 * k ≤ 3486784401 * 32 := Nat.mul_le_mul hb1 (by omega)
      have b3 : y.1 ≤ y.2 * k := by rw [Nat.mul_comm]; exact a2
      have b4 : 0 < y.2 * k := Nat.mul_pos a1.1 hk
      have w0 : (y.2 : Int) * (k : Int) = ((y.2 * k : Nat) : Int) := rfl
      have hcm := mcom (G := G) (v := y.1) (w := y.2 * k) (by omega) (by omega)
      have hg0 := Nat.gcd_pos_of_pos_right y.1 b4
      have hgl : Nat.gcd y.1 (y.2 * k) ≤ y.2 * k := Nat.le_of_dvd b4 (Nat.gcd_dvd_right _ _)
      have l1 := ldv_nat (x := y.1) (y := Nat.gcd y.1 (y.2 * k)) (by omega) hg0 (by omega)
      have l2 := ldv_nat (x := y.2 * k) (y := Nat.gcd y.1 (y.2 * k)) (by omega) hg0 (by omega)
      have d1 : y.1 / Nat.gcd y.1 (y.2 * k) ≤ y.1 := Nat.div_le_self _ _
      have d2 : y.2 * k / Nat.gcd y.1 (y.2 * k) ≤ y.2 * k := Nat.div_le_self _ _
      obtain ⟨p1, p2⟩ := put2 (G := G) (a := y.1 / Nat.gcd y.1 (y.2 * k)) (b := y.2 * k / Nat.gcd y.1 (y.2 * k)) (by omega) (by omega)
      refine ⟨_, ?_, p1, p2⟩
      simp only [f_Model_likeParts_L11, hM.1, if_pos c1, w0, wl_nat (show y.2 * k < 9223372036854775808 by omega), hcm, Option.bind_some, gd, if_pos (show ¬ ((Nat.gcd y.1 (y.2 * k) : Nat) : Int) = 0 by omega), wG, l1, l2]
    · have hw : wr ((c : Int) + 1) = ((c + 1 : Nat) : Int) := by rw [wr_of (by omega) (by omega)]; omega
      have hcN : c < F.2.2.2 := by omega
      have ho := one_M hF hM (but := but) (s := s) q1 hcN (hh c q1 hcN)
      have ih' := ih (c + 1) (by omega) (by omega) (by omega)
      rw [mF] at ih'
      by_cases d : stk F p but c = true
      · rw [if_pos ((hs c q1 hcN).mpr d)] at ho
        rw [if_pos d] at ih'
        obtain ⟨pv, gv⟩ := hv c q1 hcN
        have g1 : (0 : Int) ≤ (c : Int) ∧ (c : Int) < 32 := by omega
        have hov := no_over hF hB hcN d hdv (fun z => by rw [(cF_0 c z).2])
        have fb := (frM_b (x := mF (stk F p but) v c) (y := v c) a1.1 gv.1.1 a2 gv.2).1
        unfold frM red at ih'
        generalize mF (stk F p but) v c = y at *
        generalize fb_ct (stk F p but) c = k at *
        have z1 : (k + 1) * (y.2 * (v c).2) = k * (y.2 * (v c).2) + y.2 * (v c).2 := Nat.succ_mul _ _
        have w1 : (y.1 : Int) * ((v c).2 : Int) + ((v c).1 : Int) * (y.2 : Int) = ((y.1 * (v c).2 + (v c).1 * y.2 : Nat) : Int) := rfl
        have w2 : (y.2 : Int) * ((v c).2 : Int) = ((y.2 * (v c).2 : Nat) : Int) := rfl
        have hp0 := Nat.mul_pos a1.1 gv.1.1
        generalize y.1 * (v c).2 + (v c).1 * y.2 = V at *
        generalize y.2 * (v c).2 = W at *
        have hW : W < 9223372036854775808 := by omega
        have hV : V < 9223372036854775808 := by omega
        have hcm := mcom (G := G) (v := V) (w := W) hV hW
        have hg0 := Nat.gcd_pos_of_pos_right V hp0
        have hgl : Nat.gcd V W ≤ W := Nat.le_of_dvd hp0 (Nat.gcd_dvd_right _ _)
        have l1 := ldv_nat (x := V) (y := Nat.gcd V W) hV hg0 (by omega)
        have l2 := ldv_nat (x := W) (y := Nat.gcd V W) hW hg0 (by omega)
        simp only [f_Model_likeParts_L11, hM.1, if_neg c1, ho, Option.bind_some, if_neg (show ¬ (1 : Int) = 0 by decide), gd, if_pos g1, Int.toNat_natCast, pv.1, pv.2, w1, w2, wl_nat hV, wl_nat hW, hcm, if_pos (show ¬ ((Nat.gcd V W : Nat) : Int) = 0 by omega), l1, l2, f_Model_likeParts_L93, hw]
        exact ih'
      · rw [if_neg (fun z => d ((hs c q1 hcN).mp z))] at ho
        rw [if_neg d] at ih'
        simp only [f_Model_likeParts_L11, hM.1, if_neg c1, ho, Option.bind_some, if_true, f_Model_likeParts_L93, hw]
        exact ih'
theorem mF_lo {F : Fam} {p : Nat} {but : Int} (v : Nat → Nat × Nat) : ∀ n, n ≤ p + 1 → mF (stk F p but) v n = (0, 1) ∧ pk F 0 (stk F p but) v n = none ∧ (∀ way, pk F way (stk F p but) v n = none) ∧ fb_ct (stk F p but) n = 0 := by
  intro n
  induction n with
  | zero => intro _; exact ⟨rfl, rfl, fun _ => rfl, rfl⟩
  | succ n ih =>
    intro hn
    obtain ⟨h1, h2, h3, h4⟩ := ih (by omega)
    have hz := stk_lo (F := F) (p := p) (but := but) (i := n) (by omega)
    refine ⟨by rw [mF, hz, if_neg (by decide)]; exact h1, by rw [pk, hz, Bool.false_and, if_neg (by decide)]; exact h2, fun way => by rw [pk, hz, Bool.false_and, if_neg (by decide)]; exact h3 way, by rw [fb_ct_succ, hz, h4]; rfl⟩
theorem like_M {G : GS} {F : Fam} {way : Int} (hF : FOK F) (hM : FMo G F way) {p : Nat} {but s : Int} (hp : p < F.2.2.2) (hh : ∀ c, p < c → c < F.2.2.2 → HlM G F c) (hs : ∀ c, p < c → c < F.2.2.2 → ((kid F p but c = true ∧ F.1 2 c = s) ↔ stk F p but c = true)) {v : Nat → Nat × Nat} (hv : ∀ c, p < c → c < F.2.2.2 → PrtM G v c ∧ Gd (v c)) (hB : ∀ i, i ≤ F.2.2.2 → Bd F v i) (hne : anyB (stk F p but) F.2.2.2 = true) : ∃ G1, f_Model_likeParts G p but s (fb_ct (stk F p but) F.2.2.2 : Int) = some G1 ∧ Ml G G1 ∧ EvM G1 (fin (mF (stk F p but) v F.2.2.2) (fb_ct (stk F p but) F.2.2.2)) := by
  have hN := hF.1
  have hw : wr ((p : Int) + 1) = ((p + 1 : Nat) : Int) := by rw [wr_of (by omega) (by omega)]; omega
  have h := like_L hF hM hp hh hs hv hB hne FU (p + 1) (by omega) (by omega) (by unfold FU; omega)
  rw [(mF_lo v (p + 1) (Nat.le_refl _)).1] at h
  unfold f_Model_likeParts
  rw [hw]
  exact h
/-- what stands of the one picked so far -/
def anyO : Option Nat → Int
  | none => 0
  | some _ => 1
theorem pick_L {G : GS} {F : Fam} {way : Int} (hF : FOK F) (hM : FMo G F way) {p : Nat} {but : Int} (hp : p < F.2.2.2) (hS : hasS F p but = true) (hh : ∀ c, p < c → c < F.2.2.2 → HlM G F c) {v : Nat → Nat × Nat} (hv : ∀ c, p < c → c < F.2.2.2 → PrtM G v c ∧ Gd (v c)) (hB : ∀ i, i ≤ F.2.2.2 → Bd F v i) : ∀ (n c : Nat), p < c → c ≤ F.2.2.2 → F.2.2.2 - c < n → ∃ G1, f_Model_chosen_L13 n G p but ((pkV v (pk F way (stk F p but) v c)).1 : Int) ((pkV v (pk F way (stk F p but) v c)).2 : Int) (anyO (pk F way (stk F p but) v c)) c = some G1 ∧ Ml G G1 ∧ EvM G1 (pkV v (pk F way (stk F p but) v F.2.2.2)) := by
  have hN := hF.1
  have small : ∀ i, p < i → i < F.2.2.2 → (v i).2 < 9223372036854775808 := fun i a b => by
    obtain ⟨M2, m1, m2, m3⟩ := hB i (by omega)
    have t2 := tt_le hF i
    exact Nat.lt_of_le_of_lt (Nat.le_of_dvd m1 (m3 i (Nat.le_refl _) b)) (cube_lt m2 (by omega))
  intro n
  induction n with
  | zero => intro c q1 q2 q3; omega
  | succ n ih =>
    intro c q1 q2 q3
    by_cases c1 : (F.2.2.2 : Int) ≤ c
    · have : c = F.2.2.2 := by omega
      subst this
      have hsm : (pkV v (pk F way (stk F p but) v F.2.2.2)).1 < 9223372036854775808 ∧ (pkV v (pk F way (stk F p but) v F.2.2.2)).2 < 9223372036854775808 := by
        cases hk : pk F way (stk F p but) v F.2.2.2 with
        | none => exact ⟨show 0 < 9223372036854775808 by decide, show 1 < 9223372036854775808 by decide⟩
        | some f =>
          have hf := pkB_in _ hk
          have hpf := (stk_gt hf.2.1).1
          have h1 := small f hpf hf.1
          have h2 := (hv f hpf hf.1).2.2
          exact ⟨Nat.lt_of_le_of_lt h2 h1, h1⟩
      obtain ⟨p1, p2⟩ := put2 (G := G) hsm.1 hsm.2
      exact ⟨_, by simp only [f_Model_chosen_L13, hM.1, if_pos c1, wG], p1, p2⟩
    · have hw : wr ((c : Int) + 1) = ((c + 1 : Nat) : Int) := by rw [wr_of (by omega) (by omega)]; omega
      have hcN : c < F.2.2.2 := by omega
      have ho := one_M hF hM (but := but) (s := 0) q1 hcN (hh c q1 hcN)
      have ih' := ih (c + 1) (by omega) (by omega) (by omega)
      rw [pk] at ih'
      by_cases d : stk F p but c = true
      · rw [if_pos ((stk_son hS c).mpr d)] at ho
        have hm := mayM hF hM (but := but) hp hS hh hcN
        by_cases e : may F way (stk F p but) c = true
        · rw [if_pos e] at hm
          rw [d, e, Bool.true_and, if_pos rfl] at ih'
          obtain ⟨pv, gv⟩ := hv c q1 hcN
          have g1 : (0 : Int) ≤ (c : Int) ∧ (c : Int) < 32 := by omega
          have hsc := small c q1 hcN
          cases hk : pk F way (stk F p but) v c with
          | none =>
            rw [hk] at ih'
            have L106 : ∀ x9 s0 : Int, f_Model_chosen_L106 (f_Model_chosen_L13 n) G p but ((0 : Nat) : Int) ((1 : Nat) : Int) 0 c x9 s0 = f_Model_chosen_L13 n G p but ((v c).1 : Int) ((v c).2 : Int) 1 ((c + 1 : Nat) : Int) := fun x9 s0 => by
              simp only [f_Model_chosen_L106, if_true, f_Model_chosen_L137, gd, if_pos g1, Int.toNat_natCast, pv.1, pv.2, f_Model_chosen_L157, hw]
            have L76 : ∀ s0 : Int, f_Model_chosen_L76 (f_Model_chosen_L13 n) G p but ((0 : Nat) : Int) ((1 : Nat) : Int) 0 c s0 = f_Model_chosen_L13 n G p but ((v c).1 : Int) ((v c).2 : Int) 1 ((c + 1 : Nat) : Int) := fun s0 => by
              simp only [f_Model_chosen_L76, gd, if_pos g1, L106]
              split <;> rfl
            have e9 : f_Model_chosen_L13 (n + 1) G p but ((0 : Nat) : Int) ((1 : Nat) : Int) 0 c = f_Model_chosen_L13 n G p but ((v c).1 : Int) ((v c).2 : Int) 1 ((c + 1 : Nat) : Int) := by
              simp only [f_Model_chosen_L13, hM.1, if_neg c1, ho, hm, Option.bind_some, if_neg (show ¬ (1 : Int) = 0 by decide), gd, if_pos g1, L76]
              split <;> rfl
            show ∃ G1, f_Model_chosen_L13 (n + 1) G p but ((0 : Nat) : Int) ((1 : Nat) : Int) 0 c = some G1 ∧ _
            rw [e9]
            exact ih'
          | some f =>
            have hf := pkB_in _ hk
            have hpf := (stk_gt hf.2.1).1
            obtain ⟨pf, gf⟩ := hv f hpf (by omega)
            have hov := no_over2 hF hB (a := f) (b := c) (by omega) hf.1 hcN
            rw [hk] at ih'
            unfold pkS at ih'
            simp only at ih'
            have m1 : (v c).1 * (v f).2 ≤ (v f).2 * (v c).2 := by rw [Nat.mul_comm (v f).2]; exact Nat.mul_le_mul_right _ gv.2
            have m2 : (v f).1 * (v c).2 ≤ (v f).2 * (v c).2 := Nat.mul_le_mul_right _ gf.2
            have w1 : ((v c).1 : Int) * ((v f).2 : Int) = (((v c).1 * (v f).2 : Nat) : Int) := rfl
            have w2 : ((v f).1 : Int) * ((v c).2 : Int) = (((v f).1 * (v c).2 : Nat) : Int) := rfl
            have hlc := lc_spec (x := (((v c).1 * (v f).2 : Nat) : Int)) (y := (((v f).1 * (v c).2 : Nat) : Int)) (wl_nat (by omega)) (wl_nat (by omega))
            have l1 : less (v c) (v f) = decide ((v c).1 * (v f).2 < (v f).1 * (v c).2) := rfl
            have l2 : less (v f) (v c) = decide ((v f).1 * (v c).2 < (v c).1 * (v f).2) := rfl
            rw [l1, l2] at ih'
            have take : ∀ x9 s0 : Int, (if way = 2 then ¬ s0 = 0 else ¬ x9 = 0) → f_Model_chosen_L106 (f_Model_chosen_L13 n) G p but ((v f).1 : Int) ((v f).2 : Int) 1 c x9 s0 = f_Model_chosen_L13 n G p but ((v c).1 : Int) ((v c).2 : Int) 1 ((c + 1 : Nat) : Int) := fun x9 s0 y => by
              by_cases w : way = 2
              · rw [if_pos w] at y
                simp only [f_Model_chosen_L106, if_neg (show ¬ (1 : Int) = 0 by decide), hM.2.2.2.2, if_pos w, if_neg y, f_Model_chosen_L137, gd, if_pos g1, Int.toNat_natCast, pv.1, pv.2, f_Model_chosen_L157, hw]
              · rw [if_neg w] at y
                simp only [f_Model_chosen_L106, if_neg (show ¬ (1 : Int) = 0 by decide), hM.2.2.2.2, if_neg w, if_neg y, f_Model_chosen_L137, gd, if_pos g1, Int.toNat_natCast, pv.1, pv.2, f_Model_chosen_L157, hw]
            have skip : ∀ x9 s0 : Int, (if way = 2 then s0 = 0 else x9 = 0) → f_Model_chosen_L106 (f_Model_chosen_L13 n) G p but ((v f).1 : Int) ((v f).2 : Int) 1 c x9 s0 = f_Model_chosen_L13 n G p but ((v f).1 : Int) ((v f).2 : Int) 1 ((c + 1 : Nat) : Int) := fun x9 s0 y => by
              by_cases w : way = 2
              · rw [if_pos w] at y
                simp only [f_Model_chosen_L106, if_neg (show ¬ (1 : Int) = 0 by decide), hM.2.2.2.2, if_pos w, if_pos y, f_Model_chosen_L157, hw]
              · rw [if_neg w] at y
                simp only [f_Model_chosen_L106, if_neg (show ¬ (1 : Int) = 0 by decide), hM.2.2.2.2, if_neg w, if_pos y, f_Model_chosen_L157, hw]
            show ∃ G1, f_Model_chosen_L13 (n + 1) G p but ((v f).1 : Int) ((v f).2 : Int) 1 c = some G1 ∧ _
            generalize (v c).1 * (v f).2 = A at *
            generalize (v f).1 * (v c).2 = B at *
            have e9 : f_Model_chosen_L13 (n + 1) G p but ((v f).1 : Int) ((v f).2 : Int) 1 c = (if 0 ≤ lc (A : Int) (B : Int) then (if lc (A : Int) (B : Int) ≤ 0 then f_Model_chosen_L106 (f_Model_chosen_L13 n) G p but ((v f).1 : Int) ((v f).2 : Int) 1 c 0 0 else f_Model_chosen_L106 (f_Model_chosen_L13 n) G p but ((v f).1 : Int) ((v f).2 : Int) 1 c 0 1) else (if lc (A : Int) (B : Int) ≤ 0 then f_Model_chosen_L106 (f_Model_chosen_L13 n) G p but ((v f).1 : Int) ((v f).2 : Int) 1 c 1 0 else f_Model_chosen_L106 (f_Model_chosen_L13 n) G p but ((v f).1 : Int) ((v f).2 : Int) 1 c 1 1)) := by
              simp only [f_Model_chosen_L13, hM.1, if_neg c1, ho, hm, Option.bind_some, if_neg (show ¬ (1 : Int) = 0 by decide), gd, if_pos g1, Int.toNat_natCast, pv.1, pv.2, w1, w2, f_Model_chosen_L76]
            rw [e9]
            rcases Nat.lt_trichotomy A B with z | z | z
            · rw [if_neg (show ¬ (B : Int) < (A : Int) by omega), if_neg (show ¬ (A : Int) = (B : Int) by omega)] at hlc
              rw [hlc, if_neg (show ¬ (0 : Int) ≤ -1 by decide), if_pos (show (-1 : Int) ≤ 0 by decide)]
              by_cases w : way = 2
              · rw [if_pos w, decide_eq_false (show ¬ B < A by omega), if_neg (by decide)] at ih'
                rw [skip 1 0 (by rw [if_pos w])]
                exact ih'
              · rw [if_neg w, decide_eq_true z, if_pos rfl] at ih'
                rw [take 1 0 (by rw [if_neg w]; decide)]
                exact ih'
            · rw [if_neg (show ¬ (B : Int) < (A : Int) by omega), if_pos (show (A : Int) = (B : Int) by omega)] at hlc
              rw [hlc, if_pos (show (0 : Int) ≤ 0 by decide), if_pos (show (0 : Int) ≤ 0 by decide), skip 0 0 (by split <;> rfl)]
              rw [decide_eq_false (show ¬ B < A by omega), decide_eq_false (show ¬ A < B by omega), ite_self, if_neg (by decide)] at ih'
              exact ih'
            · rw [if_pos (show (B : Int) < (A : Int) by omega)] at hlc
              rw [hlc, if_pos (show (0 : Int) ≤ 1 by decide), if_neg (show ¬ (1 : Int) ≤ 0 by decide)]
              by_cases w : way = 2
              · rw [if_pos w, decide_eq_true z, if_pos rfl] at ih'
                rw [take 0 1 (by rw [if_pos w]; decide)]
                exact ih'
              · rw [if_neg w, decide_eq_false (show ¬ A < B by omega), if_neg (by decide)] at ih'
                rw [skip 0 1 (by rw [if_neg w])]
                exact ih'
        · rw [if_neg e] at hm
          rw [if_neg (fun z => e (Bool.and_eq_true_iff.mp z).2)] at ih'
          simp only [f_Model_chosen_L13, hM.1, if_neg c1, ho, hm, Option.bind_some, if_neg (show ¬ (1 : Int) = 0 by decide), if_true, f_Model_chosen_L157, hw]
          exact ih'
      · rw [if_neg (fun z => d ((stk_son hS c).mp z))] at ho
        rw [if_neg (fun z => d (Bool.and_eq_true_iff.mp z).1)] at ih'
        simp only [f_Model_chosen_L13, hM.1, if_neg c1, ho, Option.bind_some, if_true, f_Model_chosen_L157, hw]
        exact ih'
theorem pick_M {G : GS} {F : Fam} {way : Int} (hF : FOK F) (hM : FMo G F way) {p : Nat} {but : Int} (hp : p < F.2.2.2) (hS : hasS F p but = true) (hh : ∀ c, p < c → c < F.2.2.2 → HlM G F c) {v : Nat → Nat × Nat} (hv : ∀ c, p < c → c < F.2.2.2 → PrtM G v c ∧ Gd (v c)) (hB : ∀ i, i ≤ F.2.2.2 → Bd F v i) : ∃ G1, f_Model_chosen G p but = some G1 ∧ Ml G G1 ∧ EvM G1 (pkV v (pk F way (stk F p but) v F.2.2.2)) := by
  have hN := hF.1
  have hw : wr ((p : Int) + 1) = ((p + 1 : Nat) : Int) := by rw [wr_of (by omega) (by omega)]; omega
  have h := pick_L hF hM hp hS hh hv hB FU (p + 1) (by omega) (by omega) (by unfold FU; omega)
  rw [(mF_lo v (p + 1) (Nat.le_refl _)).2.2.1 way] at h
  unfold f_Model_chosen
  rw [hw]
  exact h
/-- sons and daughters counted -/
def dau (F : Fam) (p : Nat) (but : Int) (c : Nat) : Bool := kid F p but c && decide (F.1 2 c = 1)
theorem kids_L {G : GS} {F : Fam} {way : Int} (hF : FOK F) (hM : FMo G F way) {p : Nat} {but : Int} (hh : ∀ c, p < c → c < F.2.2.2 → HlM G F c) : ∀ (n c : Nat), p < c → c ≤ F.2.2.2 → F.2.2.2 - c < n → f_Model_children_L10 n G p but (fb_ct (son F p but) c : Int) (fb_ct (dau F p but) c : Int) c = f_Model_children_L10 1 G p but (fb_ct (son F p but) F.2.2.2 : Int) (fb_ct (dau F p but) F.2.2.2 : Int) F.2.2.2 := by
  have hN := hF.1
  intro n
  induction n with
  | zero => intro c q1 q2 q3; omega
  | succ n ih =>
    intro c q1 q2 q3
    by_cases c1 : (F.2.2.2 : Int) ≤ c
    · have : c = F.2.2.2 := by omega
      subst this
      simp only [f_Model_children_L10, hM.1, if_pos c1]
    · have hw : wr ((c : Int) + 1) = ((c + 1 : Nat) : Int) := by rw [wr_of (by omega) (by omega)]; omega
      have hcN : c < F.2.2.2 := by omega
      have h0 := one_M hF hM (but := but) (s := 0) q1 hcN (hh c q1 hcN)
      have h1 := one_M hF hM (but := but) (s := 1) q1 hcN (hh c q1 hcN)
      have ih' := ih (c + 1) (by omega) (by omega) (by omega)
      rw [fb_ct_succ, fb_ct_succ] at ih'
      have b1 := fb_ct_le (son F p but) c
      have b2 := fb_ct_le (dau F p but) c
      have s0 : son F p but c = true ↔ (kid F p but c = true ∧ F.1 2 c = 0) := by unfold son; simp
      have s1 : dau F p but c = true ↔ (kid F p but c = true ∧ F.1 2 c = 1) := by unfold dau; simp
      generalize fb_ct (son F p but) c = a at *
      generalize fb_ct (dau F p but) c = b at *
      have wa1 : wr ((a : Int) + 1) = ((a + 1 : Nat) : Int) := by rw [wr_of (by omega) (by omega)]; omega
      have wa0 : wr ((a : Int) + 0) = ((a + 0 : Nat) : Int) := by rw [wr_of (by omega) (by omega)]; omega
      have wb1 : wr ((b : Int) + 1) = ((b + 1 : Nat) : Int) := by rw [wr_of (by omega) (by omega)]; omega
      have wb0 : wr ((b : Int) + 0) = ((b + 0 : Nat) : Int) := by rw [wr_of (by omega) (by omega)]; omega
      rw [f_Model_children_L10]
      by_cases d0 : kid F p but c = true ∧ F.1 2 c = 0
      · rw [if_pos d0] at h0
        have d1 : ¬ (kid F p but c = true ∧ F.1 2 c = 1) := fun z => by have := z.2; have := d0.2; omega
        rw [if_neg d1] at h1
        rw [if_pos (s0.mpr d0), if_neg (fun z => d1 (s1.mp z))] at ih'
        simp only [hM.1, if_neg c1, h0, h1, Option.bind_some, if_neg (show ¬ (1 : Int) = 0 by decide), if_true, f_Model_children_L37, f_Model_children_L58, wa1, wb0, hw]
        exact ih'
      · rw [if_neg d0] at h0
        by_cases d1 : kid F p but c = true ∧ F.1 2 c = 1
        · rw [if_pos d1] at h1
          rw [if_neg (fun z => d0 (s0.mp z)), if_pos (s1.mpr d1)] at ih'
          simp only [hM.1, if_neg c1, h0, h1, Option.bind_some, if_neg (show ¬ (1 : Int) = 0 by decide), if_true, f_Model_children_L37, f_Model_children_L58, wa0, wb1, hw]
          exact ih'
        · rw [if_neg d1] at h1
          rw [if_neg (fun z => d0 (s0.mp z)), if_neg (fun z => d1 (s1.mp z))] at ih'
          simp only [hM.1, if_neg c1, h0, h1, Option.bind_some, if_true, f_Model_children_L37, f_Model_children_L58, wa0, wb0, hw]
          exact ih'
theorem FMo_l {G G' : GS} {F : Fam} {way : Int} (h : Ml G G') (hM : FMo G F way) : FMo G' F way := FMo_fr (fun c k _ => h.1 c k) hM
theorem kids_M {G : GS} {F : Fam} {way : Int} (hF : FOK F) (hM : FMo G F way) {p : Nat} {but : Int} (hp : p < F.2.2.2) (hh : ∀ c, p < c → c < F.2.2.2 → HlM G F c) {v : Nat → Nat × Nat} (hv : ∀ c, p < c → c < F.2.2.2 → PrtM G v c ∧ Gd (v c)) (hB : ∀ i, i ≤ F.2.2.2 → Bd F v i) : ∃ G1, f_Model_children G p but = some G1 ∧ Ml G G1 ∧ EvM G1 (kv F way v p but) := by
  have hN := hF.1
  have hw : wr ((p : Int) + 1) = ((p + 1 : Nat) : Int) := by rw [wr_of (by omega) (by omega)]; omega
  have lo : ∀ (f : Nat → Bool), (∀ i, i ≤ p → f i = false) → ∀ n, n ≤ p + 1 → fb_ct f n = 0 := fun f hf n => by
    induction n with
    | zero => intro _; rfl
    | succ n ih => intro hn; rw [fb_ct_succ, ih (by omega), hf n (by omega)]; rfl
  have h := kids_L hF hM (but := but) hh FU (p + 1) (by omega) (by omega) (by unfold FU; omega)
  rw [lo (son F p but) (fun i hi => by unfold son; rw [kid_lo hi]; rfl) (p + 1) (Nat.le_refl _), lo (dau F p but) (fun i hi => by unfold dau; rw [kid_lo hi]; rfl) (p + 1) (Nat.le_refl _)] at h
  have e0 : f_Model_children G p but = f_Model_children_L10 1 G p but (fb_ct (son F p but) F.2.2.2 : Int) (fb_ct (dau F p but) F.2.2.2 : Int) F.2.2.2 := by
    unfold f_Model_children
    rw [hw]
    exact h
  rw [e0]
  obtain ⟨p1, p2⟩ := put2 (G := G) (a := 0) (b := 1) (by decide) (by decide)
  have e1 : f_Model_children_L10 1 G p but (fb_ct (son F p but) F.2.2.2 : Int) (fb_ct (dau F p but) F.2.2.2 : Int) F.2.2.2 = (if (fb_ct (son F p but) F.2.2.2 : Int) = 0 then (if (fb_ct (dau F p but) F.2.2.2 : Int) = 0 then some (sl (sl G 81 61 ((0 : Nat) : Int)) 81 62 ((1 : Nat) : Int)) else f_Model_children_L87 (sl (sl G 81 61 ((0 : Nat) : Int)) 81 62 ((1 : Nat) : Int)) p but (fb_ct (son F p but) F.2.2.2 : Int) (fb_ct (dau F p but) F.2.2.2 : Int)) else f_Model_children_L87 (sl (sl G 81 61 ((0 : Nat) : Int)) 81 62 ((1 : Nat) : Int)) p but (fb_ct (son F p but) F.2.2.2 : Int) (fb_ct (dau F p but) F.2.2.2 : Int)) := by
    simp only [f_Model_children_L10, hM.1, if_pos (Int.le_refl _), wG]
    rfl
  rw [e1]
  generalize sl (sl G 81 61 ((0 : Nat) : Int)) 81 62 ((1 : Nat) : Int) = G2 at *
  have hM2 := FMo_l p1 hM
  have hh2 : ∀ c, p < c → c < F.2.2.2 → HlM G2 F c := fun c a b => by unfold HlM; rw [p1.1]; exact hh c a b
  have hv2 : ∀ c, p < c → c < F.2.2.2 → PrtM G2 v c ∧ Gd (v c) := fun c a b => ⟨⟨by rw [p1.2.2 120 c (by decide)]; exact (hv c a b).1.1, by rw [p1.2.2 121 c (by decide)]; exact (hv c a b).1.2⟩, (hv c a b).2⟩
  have zf : ∀ (f : Nat → Bool) n, fb_ct f n = 0 ↔ anyB f n = false := fun f n => by
    constructor
    · intro z
      cases y : anyB f n
      · rfl
      · have := ct_pos (anyB_t.mp y); omega
    · intro y
      have : ∀ m, m ≤ n → fb_ct f m = 0 := fun m => by
        induction m with
        | zero => intro _; rfl
        | succ m ih => intro hm; rw [fb_ct_succ, ih (by omega), anyB_f.mp y m (by omega)]; rfl
      exact this n (Nat.le_refl _)
  have hson := zf (son F p but) F.2.2.2
  have hdau := zf (dau F p but) F.2.2.2
  unfold kv
  by_cases c1 : hasS F p but = true
  · have n1 : ¬ (fb_ct (son F p but) F.2.2.2 : Int) = 0 := fun z => by
      have z2 : anyB (son F p but) F.2.2.2 = false := hson.mp (by omega)
      unfold hasS at c1
      rw [z2] at c1; cases c1
    have hany : anyB (stk F p but) F.2.2.2 = true := by
      obtain ⟨g0, -, g1, g2⟩ := has_some c1
      exact anyB_t.mpr ⟨g0, g1, g2⟩
    have hcs : fb_ct (stk F p but) F.2.2.2 = fb_ct (son F p but) F.2.2.2 := fb_ct_cong (fun k _ => by
      unfold stk son
      rw [c1]; simp)
    rw [if_pos hany, if_neg n1]
    by_cases c2 : F.2.2.1 = 2
    · rw [if_neg (fun z => z.2 c2)]
      obtain ⟨G1, r1, r2, r3⟩ := like_M hF hM2 (s := 0) hp hh2 (fun c _ _ => stk_son c1 c) hv2 hB hany
      refine ⟨G1, ?_, p1.trans r2, r3⟩
      rw [hcs] at r1
      simp only [f_Model_children_L87, if_neg n1, hM2.2.2.2.1, if_pos c2, f_Model_children_L99, f_Model_children_L111, f_Model_children_L121, r1, Option.bind_some]
    · rw [if_pos ⟨c1, c2⟩]
      obtain ⟨G1, r1, r2, r3⟩ := pick_M hF hM2 (but := but) hp c1 hh2 hv2 hB
      refine ⟨G1, ?_, p1.trans r2, r3⟩
      simp only [f_Model_children_L87, if_neg n1, hM2.2.2.2.1, if_neg c2, r1, Option.bind_some]
  · have c1f : hasS F p but = false := by cases z : hasS F p but <;> simp_all
    have n1 : (fb_ct (son F p but) F.2.2.2 : Int) = 0 := by
      have := hson.mpr c1f
      omega
    have hkd : ∀ c, c < F.2.2.2 → stk F p but c = dau F p but c := fun c hc => by
      have ns := anyB_f.mp c1f c hc
      have sx := (hF.2.2 c hc).1
      unfold stk dau
      rw [c1f]
      unfold son at ns
      cases y : kid F p but c
      · rfl
      · rw [y, Bool.true_and] at ns
        have n0 := of_decide_eq_false ns
        have n2 : F.1 2 c = 1 := by omega
        rw [decide_eq_true n2]; simp
    have hcs : fb_ct (stk F p but) F.2.2.2 = fb_ct (dau F p but) F.2.2.2 := fb_ct_cong hkd
    have han : anyB (stk F p but) F.2.2.2 = anyB (dau F p but) F.2.2.2 := anyB_cong hkd
    rw [if_pos n1, if_neg (show ¬ (hasS F p but = true ∧ F.2.2.1 ≠ 2) from fun z => c1 z.1), han]
    by_cases c2 : anyB (dau F p but) F.2.2.2 = true
    · have n2 : ¬ (fb_ct (dau F p but) F.2.2.2 : Int) = 0 := fun z => by
        have := hdau.mp (by omega)
        rw [this] at c2; cases c2
      rw [if_pos c2, if_neg n2]
      obtain ⟨G1, r1, r2, r3⟩ := like_M hF hM2 (s := 1) hp hh2 (fun c _ hc => by
        rw [hkd c hc]
        unfold dau
        simp) hv2 hB (by rw [han]; exact c2)
      refine ⟨G1, ?_, p1.trans r2, r3⟩
      rw [hcs] at r1
      simp only [f_Model_children_L87, if_pos n1, f_Model_children_L99, f_Model_children_L111, f_Model_children_L121, r1, Option.bind_some]
    · have n2 : (fb_ct (dau F p but) F.2.2.2 : Int) = 0 := by
        have := hdau.mpr (by cases z : anyB (dau F p but) F.2.2.2 <;> simp_all)
        omega
      rw [if_neg c2, if_pos n2]
      exact ⟨G2, rfl, p1, p2⟩
