/-! the reference's lines, and what the dead one leaves -/
theorem hl_kid0 {F : Fam} {p : Nat} (h : ¬ alv F p = true) : anyB (kid F p (-1)) F.2.2.2 = hl F p := by
  have ha' : alv F p = false := by cases y : alv F p <;> simp_all
  rw [hl_eq, ha', Bool.false_or]
  refine anyB_cong fun i hi => ?_
  unfold kid
  rw [decide_eq_true (show ((i : Int) ≠ -1) by omega), Bool.and_true]
theorem alv_M {G : GS} {F : Fam} {way : Int} (hF : FOK F) (hM : FMo G F way) {p : Nat} (hp : p < F.2.2.2) : f_Model_isAlive G p (gi G 81 55) = some (if alv F p = true then 1 else 0) := by
  have hN := hF.1
  have e5 := hM.2.1 5 p (by decide) (by decide)
  have e7 := hM.2.1 7 p (by decide) (by decide)
  simp only [Nat.reduceAdd] at e5 e7
  rw [alive_M _ (by omega), Int.toNat_natCast, e5, e7, hM.2.2.1]
  unfold alv
  simp only [decide_eq_true_eq]
def LinM (G : GS) (F : Fam) (q : Nat) (way : Int) (p : Nat) : Prop := FMo G F way ∧ ∀ c, p ≤ c → c < F.2.2.2 → HlM G F c ∧ PrtM G (vv F q way) c
theorem lines_step {G : GS} {F : Fam} {q : Nat} {way : Int} (hF : FOK F) {p : Nat} (hp : p < F.2.2.2) (hL : LinM G F q way (p + 1)) (n : Nat) : ∃ G1, f_Model_lines_L7 (n + 1) G q p = f_Model_lines_L7 n G1 q ((p : Int) - 1) ∧ Mf G G1 ∧ LinM G1 F q way p := by
  have hN := hF.1
  obtain ⟨hM, hls⟩ := hL
  have g1 : (0 : Int) ≤ (p : Int) ∧ (p : Int) < 32 := by omega
  have hw : wr ((p : Int) + (-1)) = (p : Int) - 1 := by rw [wr_of (by omega) (by omega)]; omega
  have ha := alv_M hF hM hp
  have sm := vv_g hF q way hp
  -- the two longs of p
  have fin : ∀ (G2 : GS) (a b : Nat), Mf G G2 → FMo G2 F way → (∀ c, p < c → c < F.2.2.2 → HlM G2 F c ∧ PrtM G2 (vv F q way) c) → HlM G2 F p → vv F q way p = (a, b) → a < 9223372036854775808 → b < 9223372036854775808 → Mf G (sl (sl G2 120 p (a : Int)) 121 p (b : Int)) ∧ LinM (sl (sl G2 120 p (a : Int)) 121 p (b : Int)) F q way p := by
    intro G2 a b h1 h2 h3 h4 h5 hsa hsb
    refine ⟨h1, FMo_fr (fun _ _ _ => rfl) h2, fun c x y => ?_⟩
    by_cases z : c = p
    · subst z
      refine ⟨h4, ?_, ?_⟩
      · rw [h5, gl_sl, if_neg (by omega), gl_sl, if_pos ⟨rfl, rfl⟩]; exact wl_nat hsa
      · rw [h5, gl_sl, if_pos ⟨rfl, rfl⟩]; exact wl_nat hsb
    · obtain ⟨k1, k2, k3⟩ := h3 c (by omega) y
      refine ⟨k1, ?_, ?_⟩
      · rw [gl_sl, if_neg (by omega), gl_sl, if_neg (by omega)]; exact k2
      · rw [gl_sl, if_neg (by omega), gl_sl, if_neg (by omega)]; exact k3
  have sg : ∀ (G2 : GS) (s : Int), (s = 0 ∨ s = 1) → Mf G G2 → gi (si G2 119 p s) 119 p = s ∧ (∀ c k, ¬ (c = 119 ∧ k = p) → gi (si G2 119 p s) c k = gi G2 c k) ∧ Mf G (si G2 119 p s) ∧ (∀ c k, gl (si G2 119 p s) c k = gl G2 c k) := fun G2 s hs h1 =>
    ⟨by rw [gi_si, if_pos ⟨rfl, rfl⟩]; exact wr_of (by omega) (by omega), fun c k z => by rw [gi_si, if_neg z], ⟨fun c k z => by rw [gi_ne z]; exact h1.1 c k z, h1.2⟩, fun _ _ => rfl⟩
  have mf0 : Mf G G := ⟨fun _ _ _ => rfl, fun _ _ => rfl⟩
  by_cases c : alv F p = true
  · rw [if_pos c] at ha
    obtain ⟨u1, u2, u3, u4⟩ := sg G 1 (Or.inr rfl) mf0
    have hh : hl F p = true := by rw [hl_eq, c, Bool.true_or]
    have e : ∃ a : Nat, vv F q way p = (a, 1) ∧ a ≤ 1 ∧ f_Model_lines_L7 (n + 1) G q p = f_Model_lines_L7 n (sl (sl (si G 119 p 1) 120 p (a : Int)) 121 p ((1 : Nat) : Int)) q ((p : Int) - 1) := by
      by_cases d : p = q
      · refine ⟨1, by rw [vv_eq, if_pos c, if_pos d], by decide, ?_⟩
        simp only [f_Model_lines_L7, if_neg (show ¬ (p : Int) < 0 by omega), ha, Option.bind_some, gd, if_pos g1, wG, Int.toNat_natCast, u1, if_neg (show ¬ (1 : Int) = 0 by decide), if_pos (show (p : Int) = (q : Int) by omega), f_Model_lines_L50, f_Model_lines_L99, hw]
        rfl
      · refine ⟨0, by rw [vv_eq, if_pos c, if_neg d], by decide, ?_⟩
        simp only [f_Model_lines_L7, if_neg (show ¬ (p : Int) < 0 by omega), ha, Option.bind_some, gd, if_pos g1, wG, Int.toNat_natCast, u1, if_neg (show ¬ (1 : Int) = 0 by decide), if_neg (show ¬ (p : Int) = (q : Int) by omega), f_Model_lines_L50, f_Model_lines_L99, hw]
        rfl
    obtain ⟨a, e1, e2, e3⟩ := e
    generalize si G 119 p 1 = G2 at *
    obtain ⟨r1, r2⟩ := fin G2 a 1 u3 (FMo_fr u3.1 hM) (fun c x y => by
      obtain ⟨k1, k2, k3⟩ := hls c (by omega) y
      exact ⟨by unfold HlM; rw [u2 119 c (by omega)]; exact k1, by rw [u4]; exact k2, by rw [u4]; exact k3⟩) (by unfold HlM; rw [u1, hh, if_pos rfl]) e1 (by omega) (by decide)
    exact ⟨_, e3, r1, r2⟩
  · rw [if_neg c] at ha
    obtain ⟨u1, u2, u3, u4⟩ := sg G 0 (Or.inl rfl) mf0
    have e1 : f_Model_lines_L7 (n + 1) G q p = (f_Model_hasChildren (si G 119 p 0) p (-1)).bind fun q2 => (f_Model_children (si (si G 119 p 0) 119 p q2) p (-1)).bind fun q3 => f_Model_lines_L7 n (sl (sl q3 120 p (gl q3 81 61)) 121 p (gl (sl q3 120 p (gl q3 81 61)) 81 62)) q ((p : Int) - 1) := by
      simp only [f_Model_lines_L7, if_neg (show ¬ (p : Int) < 0 by omega), ha, Option.bind_some, gd, if_pos g1, wG, Int.toNat_natCast, u1, if_true, f_Model_lines_L99, hw]
    rw [e1]
    generalize si G 119 p 0 = G2 at *
    have hM2 := FMo_fr u3.1 hM
    have hh2 : ∀ c, p < c → c < F.2.2.2 → HlM G2 F c := fun c x y => by unfold HlM; rw [u2 119 c (by omega)]; exact (hls c (by omega) y).1
    have hhc := hasM hF hM2 (but := -1) hp hh2
    rw [hl_kid0 c] at hhc
    rw [hhc, Option.bind_some]
    obtain ⟨t1, t2, t3, t4⟩ := sg G2 (if hl F p = true then 1 else 0) (by split <;> simp) u3
    generalize si G2 119 p (if hl F p = true then 1 else 0) = G3 at *
    have hM3 := FMo_fr t3.1 hM
    have hv3 : ∀ c, p < c → c < F.2.2.2 → HlM G3 F c ∧ PrtM G3 (vv F q way) c := fun c x y => by
      obtain ⟨k1, k2, k3⟩ := hls c (by omega) y
      exact ⟨by unfold HlM; rw [t2 119 c (by omega), u2 119 c (by omega)]; exact k1, by rw [t4, u4]; exact k2, by rw [t4, u4]; exact k3⟩
    obtain ⟨G4, r1, r2, r3⟩ := kids_M hF hM3 (but := -1) hp (fun c x y => (hv3 c x y).1) (v := vv F q way) (fun c x y => ⟨(hv3 c x y).2, vv_g hF q way y⟩) (fun i hi => vv_b hF q way hi)
    rw [r1, Option.bind_some]
    have hvv : vv F q way p = kv F way (vv F q way) p (-1) := by rw [vv_eq, if_neg c]
    rw [← hvv] at r3
    have hE2 : gl (sl G4 120 p (gl G4 81 61)) 81 62 = ((vv F q way p).2 : Int) := by rw [gl_sl, if_neg (by omega)]; exact r3.2
    rw [hE2, r3.1]
    obtain ⟨M2, m1, m2, m3⟩ := vv_b hF q way (i := p) (by omega)
    have hsm : (vv F q way p).2 < 9223372036854775808 := by
      have tl := tt_le hF p
      have h62 : M2 ^ 3 ≤ 3 ^ 119 := Nat.le_trans m2 (pow3_mono (by omega))
      exact Nat.lt_of_le_of_lt (Nat.le_of_dvd m1 (m3 p (Nat.le_refl _) hp)) (cube_lt h62 (Nat.le_refl _))
    obtain ⟨w1, w2⟩ := fin G4 (vv F q way p).1 (vv F q way p).2 ⟨fun c k z => by rw [r2.1]; exact t3.1 c k z, fun c k => by rw [r2.2.1]; exact t3.2 c k⟩ (FMo_l r2 hM3) (fun c x y => by
      obtain ⟨k1, k2, k3⟩ := hv3 c x y
      exact ⟨by unfold HlM; rw [r2.1]; exact k1, by rw [r2.2.2 120 c (by decide)]; exact k2, by rw [r2.2.2 121 c (by decide)]; exact k3⟩) (by unfold HlM; rw [r2.1, t1]) rfl (by have := sm.2; omega) hsm
    exact ⟨_, rfl, w1, w2⟩
theorem lines_L {F : Fam} {q : Nat} {way : Int} (hF : FOK F) : ∀ (p n : Nat) (G : GS), p ≤ F.2.2.2 → p < n → LinM G F q way p → ∃ G1, f_Model_lines_L7 n G q ((p : Int) - 1) = some G1 ∧ Mf G G1 ∧ LinM G1 F q way 0 := by
  intro p
  induction p with
  | zero =>
    intro n G _ hn hL
    obtain ⟨n', rfl⟩ : ∃ n', n = n' + 1 := ⟨n - 1, by omega⟩
    exact ⟨G, by simp only [f_Model_lines_L7, if_pos (show ((0 : Nat) : Int) - 1 < 0 by decide)], ⟨fun _ _ _ => rfl, fun _ _ => rfl⟩, hL⟩
  | succ p ih =>
    intro n G hp hn hL
    obtain ⟨n', rfl⟩ : ∃ n', n = n' + 1 := ⟨n - 1, by omega⟩
    rw [show ((p + 1 : Nat) : Int) - 1 = (p : Int) by omega]
    obtain ⟨G1, r1, r2, r3⟩ := lines_step hF (by omega) hL n'
    obtain ⟨G2, u1, u2, u3⟩ := ih n' G1 (by omega) (by omega) r3
    exact ⟨G2, r1.trans u1, ⟨fun c k z => (u2.1 c k z).trans (r2.1 c k z), fun c k => (u2.2 c k).trans (r2.2 c k)⟩, u3⟩
theorem top_L {F : Fam} {q : Nat} {way : Int} (hF : FOK F) {G : GS} (hL : LinM G F q way 0) : ∀ (m n t : Nat) (b : Int), t < F.2.2.2 → t < m → t + 1 < n → ∃ G1, f_Model_partOf_L55 n G t b = some G1 ∧ Ml G G1 ∧ EvM G1 (ev F q way (tpF F m t b)) := by
  have hN := hF.1
  obtain ⟨hM, hl⟩ := hL
  obtain ⟨p1, p2⟩ := put2 (G := G) (a := 0) (b := 1) (by decide) (by decide)
  have hh : ∀ c, c < F.2.2.2 → HlM G F c := fun c y => (hl c (by omega) y).1
  intro m
  induction m with
  | zero => intro n t b _ h; omega
  | succ m ih =>
    intro n t b h1 h2 h3
    obtain ⟨n', rfl⟩ : ∃ n', n = n' + 1 := ⟨n - 1, by omega⟩
    have hc := hasM hF hM (but := b) h1 (fun c _ y => hh c y)
    rw [← hl_kid] at hc
    have htn : ¬ (t : Int) = -1 := by omega
    rw [tpF]
    by_cases c : anyB (stk F t b) F.2.2.2 = true
    · rw [if_pos c] at hc ⊢
      have hM2 := FMo_l p1 hM
      obtain ⟨G1, r1, r2, r3⟩ := kids_M hF hM2 (but := b) h1 (fun c _ y => by unfold HlM; rw [p1.1]; exact hh c y) (v := vv F q way) (fun c _ y => ⟨⟨by rw [p1.2.2 120 c (by decide)]; exact (hl c (by omega) y).2.1, by rw [p1.2.2 121 c (by decide)]; exact (hl c (by omega) y).2.2⟩, vv_g hF q way y⟩) (fun i hi => vv_b hF q way hi)
      refine ⟨G1, ?_, p1.trans r2, r3⟩
      have r1' : f_Model_children (sl (sl G 81 61 0) 81 62 1) t b = some G1 := r1
      simp only [f_Model_partOf_L55, if_neg htn, hc, Option.bind_some, if_neg (show ¬ (1 : Int) = 0 by decide), f_Model_partOf_L88, wG, r1']
    · rw [if_neg c] at hc ⊢
      have g1 : (0 : Int) ≤ (t : Int) ∧ (t : Int) < 32 := by omega
      have e3 := hM.2.1 3 t (by decide) (by decide)
      simp only [Nat.reduceAdd] at e3
      have e9 : f_Model_partOf_L55 (n' + 1) G t b = f_Model_partOf_L55 n' G (F.1 3 t) t := by
        simp only [f_Model_partOf_L55, if_neg htn, hc, Option.bind_some, if_true, gd, if_pos g1, Int.toNat_natCast, e3]
      rw [e9]
      by_cases d : F.1 3 t = -1
      · rw [if_pos d, d]
        obtain ⟨n2, rfl⟩ : ∃ n2, n' = n2 + 1 := ⟨n' - 1, by omega⟩
        refine ⟨_, ?_, p1, p2⟩
        simp only [f_Model_partOf_L55, if_true, f_Model_partOf_L88, wG]
        rfl
      · rw [if_neg d]
        have hf := (hF.2.2 t h1).2.1
        obtain ⟨fa, hfa⟩ : ∃ fa : Nat, F.1 3 t = fa := ⟨(F.1 3 t).toNat, by omega⟩
        rw [hfa, Int.toNat_natCast]
        exact ih n' fa (t : Int) (by omega) (by omega) (by omega)
/-- cells that one question to the reference writes -/
def Mq (G G' : GS) : Prop := (∀ c k, ¬ (c = 119 ∨ (c = 81 ∧ 55 ≤ k ∧ k ≤ 57)) → gi G' c k = gi G c k) ∧ ∀ c k, gp G' c k = gp G c k
theorem Mq.rf (G : GS) : Mq G G := ⟨fun _ _ _ => rfl, fun _ _ => rfl⟩
theorem Mq.trans {A B C : GS} (h1 : Mq A B) (h2 : Mq B C) : Mq A C := ⟨fun c k z => (h2.1 c k z).trans (h1.1 c k z), fun c k => (h2.2 c k).trans (h1.2 c k)⟩
theorem Mq.inv {G G' : GS} (h : Mq G G') (hI : Inv G) : Inv G' := Inv_scr (fun c k z => h.1 c k (by unfold scr at z; omega)) h.2 hI
theorem Mq.fb {G G' : GS} {F : Fam} (h : Mq G G') (hB : FB G F) : FB G' F := ⟨by rw [h.1 1 7 (by omega)]; exact hB.1, fun c k a b => by rw [h.1 c k (by omega)]; exact hB.2 c k a b⟩
/-- a family asked for in this store -/
def Asked (G : GS) (F : Fam) (p l r : Nat) : Prop := Inv G ∧ FOK F ∧ FB G F ∧ F.2.1 = gi G 7 p ∧ F.2.2.1 = cusOf G p l r ∧ r < 4 ∧ onV G (gi G 7 p) r ∧ (0 ≤ gi G 7 p ∧ gi G 7 p ≤ 29999) ∧ p < F.2.2.2 ∧ (l : Int) < gi G 9 5
theorem Asked.fr {G G' : GS} {F : Fam} {p l r : Nat} (hi : ∀ c k, ¬ scr c k → gi G' c k = gi G c k) (hp : ∀ c k, gp G' c k = gp G c k) (h : Asked G F p l r) : Asked G' F p l r := by
  obtain ⟨h1, h2, h3, h4, h5, h6, h7, h8, h9, h10⟩ := h
  have lc := law_rng (h1.2.2.2.2.2.2.2.2.1 r h6)
  have e7 : gi G' 7 p = gi G 7 p := hi 7 p (by unfold scr; omega)
  refine ⟨Inv_scr hi hp h1, h2, ⟨by rw [hi 1 7 (by unfold scr; omega)]; exact h3.1, fun c k a b => by rw [hi c k (by unfold scr; omega)]; exact h3.2 c k a b⟩, by rw [e7]; exact h4, ?_, h6, ?_, by rw [e7]; exact h8, h9, by rw [hi 9 5 (by unfold scr; omega)]; exact h10⟩
  · rw [h5]
    unfold cusOf
    rw [hp, hi 10 l (by unfold scr; omega), hi _ _ (by unfold scr; omega)]
  · rw [e7]
    exact onV_fr (hi 0 12 (by unfold scr; omega)).symm (fun k => (hi 74 k (by unfold scr; omega)).symm) h7
theorem partM {G : GS} {F : Fam} {p l r q : Nat} {way : Int} (hA : Asked G F p l r) (hw : 0 ≤ way ∧ way ≤ 2) : ∃ G1, f_Model_partOf G p l q way = some G1 ∧ Mq G G1 ∧ EvM G1 (ev F q way (tps F p)) := by
  obtain ⟨hI, hF, hB, hD, hC, r4, hon, hday, hpN, hl⟩ := hA
  obtain ⟨hE, hP, hL, hR, hS, hT, hM, hJ, hK⟩ := hI
  obtain ⟨e0, e1, e10, e16, -⟩ := eqS_in hE
  have hN := hF.1
  have l1 := hL.2.1
  have lk := hL.2.2.1 l hl
  unfold LOK at lk
  have e87 := hE.1 (87, 7) (by decide) p
  have e90 := hE.1 (90, 10) (by decide) l
  have e95 := hE.1 (95, 74) (by decide)
  simp only at e87 e90 e95
  have lr := hK.2.2.2.2 r r4
  have hcu := lr.2.2.1 (gi G 10 l).toNat (by omega)
  have g1 : (0 : Int) ≤ (p : Int) ∧ (p : Int) < 32 := by omega
  have wD : wr (gi G 7 p) = gi G 7 p := wr_gi _ _ _
  have v1 : gi (si G 81 55 (gi G 7 p)) 81 55 = gi G 7 p := by rw [gi_si, if_pos ⟨rfl, rfl⟩]; exact wD
  have v2 : ∀ c k, ¬ (c = 81 ∧ k = 55) → gi (si G 81 55 (gi G 7 p)) c k = gi G c k := fun c k z => by rw [gi_si, if_neg z]
  have v3 : ∀ c k, gp (si G 81 55 (gi G 7 p)) c k = gp G c k := fun _ _ => rfl
  have e9 : f_Model_partOf G p l q way = (f_Model_reignOn (si G 81 55 (gi G 7 p)) (gi (si G 81 55 (gi G 7 p)) 87 p)).bind fun q1 => gd (0 ≤ (l : Int) ∧ (l : Int) < 12) <| gd (0 ≤ wr ((4 * q1) + (gi (si G 81 55 (gi G 7 p)) 90 (l : Int).toNat)) ∧ wr ((4 * q1) + (gi (si G 81 55 (gi G 7 p)) 90 (l : Int).toNat)) < 16) <| (f_Model_lines (si (si (si G 81 55 (gi G 7 p)) 81 56 (gi (si G 81 55 (gi G 7 p)) 100 (wr ((4 * q1) + (gi (si G 81 55 (gi G 7 p)) 90 (l : Int).toNat))).toNat)) 81 57 way) q).bind fun q2 => f_Model_partOf_L55 FU q2 p (-1) := by
    simp only [f_Model_partOf, gd, if_pos g1, wG, Int.toNat_natCast, e87]
  rw [e9]
  generalize si G 81 55 (gi G 7 p) = G1 at *
  obtain ⟨s, s4, b1, b2⟩ := on_m (G := G1) (d := gi G 7 p) (InvR_fr (v2 _ _ (by omega)) (fun _ => v2 _ _ (by omega)) hR) hday.1 (by rw [v2 81 16 (by omega), v2 0 12 (by omega)]; exact e16) (fun j => by rw [v2 95 j (by omega), v2 74 j (by omega)]; exact e95 j)
  have b3 := on_one (onV_fr (v2 _ _ (by omega)) (fun _ => v2 _ _ (by omega)) b1) hon
  rw [b3] at b2
  have hix : wr ((4 * (r : Int)) + gi G1 90 l) = ((4 * r + (gi G 10 l).toNat : Nat) : Int) := by
    rw [v2 90 l (by omega), e90, wr_of (by omega) (by omega)]; omega
  have hcv : gi G1 100 (4 * r + (gi G 10 l).toNat) = F.2.2.1 := by
    rw [v2 100 _ (by omega), hcu.1, hC]; rfl
  rw [v2 87 p (by omega), e87, b2, Option.bind_some, gd, if_pos (by omega), Int.toNat_natCast, hix, gd, if_pos (by omega), Int.toNat_natCast, hcv]
  have wC : wr F.2.2.1 = F.2.2.1 := wr_of (by have := hF.2.1; omega) (by have := hF.2.1; omega)
  have t56 : gi (si (si G1 81 56 F.2.2.1) 81 57 way) 81 56 = F.2.2.1 := by rw [gi_si, if_neg (by omega), gi_si, if_pos ⟨rfl, rfl⟩]; exact wC
  have t57 : gi (si (si G1 81 56 F.2.2.1) 81 57 way) 81 57 = way := by rw [gi_si, if_pos ⟨rfl, rfl⟩]; exact wr_of (by omega) (by omega)
  have t2 : ∀ c k, ¬ (c = 81 ∧ (k = 56 ∨ k = 57)) → gi (si (si G1 81 56 F.2.2.1) 81 57 way) c k = gi G1 c k := fun c k z => by rw [gi_si, if_neg (by omega), gi_si, if_neg (by omega)]
  have t3 : ∀ c k, gp (si (si G1 81 56 F.2.2.1) 81 57 way) c k = gp G1 c k := fun _ _ => rfl
  generalize si (si G1 81 56 F.2.2.1) 81 57 way = G2 at *
  have hcell : ∀ c k, 2 ≤ c → c ≤ 7 → gi G2 (c + 80) k = F.1 c k := fun c k a b => by
    rw [t2 (c + 80) k (by omega), v2 (c + 80) k (by omega), ← hB.2 c k a b]
    have h : c = 2 ∨ c = 3 ∨ c = 4 ∨ c = 5 ∨ c = 6 ∨ c = 7 := by omega
    rcases h with rfl | rfl | rfl | rfl | rfl | rfl
    · exact hE.1 (82, 2) (by decide) k
    · exact hE.1 (83, 3) (by decide) k
    · exact hE.1 (84, 4) (by decide) k
    · exact hE.1 (85, 5) (by decide) k
    · exact hE.1 (86, 6) (by decide) k
    · exact hE.1 (87, 7) (by decide) k
  have h811 : gi G2 81 1 = F.2.2.2 := by rw [t2 81 1 (by omega), v2 81 1 (by omega), e1]; exact hB.1
  have hM2 : FMo G2 F way := ⟨h811, hcell, by rw [t2 81 55 (by omega), v1]; exact hD.symm, t56, t57⟩
  obtain ⟨G3, u1, u2, u3⟩ := lines_L (q := q) hF F.2.2.2 FU G2 (Nat.le_refl _) (by unfold FU; omega) ⟨hM2, fun c a b => by omega⟩
  have u1' : f_Model_lines G2 q = some G3 := by
    unfold f_Model_lines
    rw [h811, wr_of (by omega) (by omega)]
    exact u1
  rw [u1', Option.bind_some]
  obtain ⟨G4, w1, w2, w3⟩ := top_L hF u3 33 FU p (-1) hpN (by omega) (by unfold FU; omega)
  refine ⟨G4, w1, ⟨fun c k z => ?_, fun c k => by rw [w2.2.1, u2.2, t3, v3]⟩, w3⟩
  rw [w2.1, u2.1 c k (by omega), t2 c k (by omega), v2 c k (by omega)]
/-- what one of the heirs gets is told as set by the class, one by one by the reference -/
theorem heirs_L {F : Fam} {p l r : Nat} : ∀ (n q : Nat) (G : GS), q ≤ F.2.2.2 → F.2.2.2 - q < n → Asked G F p l r → ∃ G1, f_Model_heirsOf_L5 n G p l (fb_ct (fun i => decide (0 < (ev F i 0 (tps F p)).1)) q : Int) q = some ((fb_ct (fun i => decide (0 < (ev F i 0 (tps F p)).1)) F.2.2.2 : Int), G1) ∧ Mq G G1 := by
  intro n
  induction n with
  | zero => intro q G q1 q2; omega
  | succ n ih =>
    intro q G q1 q2 hA
    have hF := hA.2.1
    have hN := hF.1
    have e1 : gi G 81 1 = F.2.2.2 := by rw [(eqS_in hA.1.1).2.1]; exact hA.2.2.1.1
    by_cases c1 : (F.2.2.2 : Int) ≤ q
    · have : q = F.2.2.2 := by omega
      subst this
      exact ⟨G, by simp only [f_Model_heirsOf_L5, e1, if_pos c1], Mq.rf G⟩
    · have hw : wr ((q : Int) + 1) = ((q + 1 : Nat) : Int) := by rw [wr_of (by omega) (by omega)]; omega
      obtain ⟨G1, r1, r2, r3⟩ := partM (q := q) (way := 0) hA (by decide)
      obtain ⟨G2, u1, u2⟩ := ih (q + 1) G1 (by omega) (by omega) (hA.fr (fun c k z => r2.1 c k (by unfold scr at z; omega)) r2.2)
      rw [fb_ct_succ] at u1
      have hct := fb_ct_le (fun i => decide (0 < (ev F i 0 (tps F p)).1)) q
      have hlt : (ev F q 0 (tps F p)).1 < 9223372036854775808 := by
        have h2 := wl_gl G1 81 61
        rw [r3.1] at h2
        have := Int64.toInt_lt (Int64.ofInt ((ev F q 0 (tps F p)).1 : Int))
        have h3 : (Int64.ofInt ((ev F q 0 (tps F p)).1 : Int)).toInt = ((ev F q 0 (tps F p)).1 : Int) := h2
        omega
      have hz := lc_z hlt
      refine ⟨G2, ?_, r2.trans u2⟩
      rw [← r3.1] at hz
      by_cases d : 0 < (ev F q 0 (tps F p)).1
      · rw [decide_eq_true d, if_pos rfl] at u1
        rw [if_neg (by omega)] at hz
        generalize fb_ct (fun i => decide (0 < (ev F i 0 (tps F p)).1)) q = k at *
        have hwk : wr ((k : Int) + 1) = ((k + 1 : Nat) : Int) := by rw [wr_of (by omega) (by omega)]; omega
        simp only [f_Model_heirsOf_L5, e1, if_neg c1, r1, Option.bind_some, hz, if_neg (show ¬ (1 : Int) ≤ 0 by decide), f_Model_heirsOf_L38, hwk, hw]
        exact u1
      · rw [decide_eq_false d, if_neg (by decide)] at u1
        rw [if_pos (by omega)] at hz
        generalize fb_ct (fun i => decide (0 < (ev F i 0 (tps F p)).1)) q = k at *
        have hwk : wr ((k : Int) + 0) = ((k + 0 : Nat) : Int) := by rw [wr_of (by omega) (by omega)]; omega
        simp only [f_Model_heirsOf_L5, e1, if_neg c1, r1, Option.bind_some, hz, if_pos (show (0 : Int) ≤ 0 by decide), f_Model_heirsOf_L38, hwk, hw]
        exact u1
theorem heirs_M {G : GS} {F : Fam} {p l r : Nat} (hA : Asked G F p l r) : ∃ G1, f_Model_heirsOf G p l = some ((fb_ct (fun i => decide (0 < (ev F i 0 (tps F p)).1)) F.2.2.2 : Int), G1) ∧ Mq G G1 := heirs_L FU 0 G (by omega) (by have := hA.2.1.1; unfold FU; omega) hA
/-- both sides of a question -/
theorem ask_in {G : GS} (hI : Inv G) {p l : Nat} (hp : (p : Int) < gi G 1 7) (hdd : gi G 7 p ≠ -1) (hl : (l : Int) < gi G 9 5) : ∃ (F : Fam) (r : Nat) (G1 : GS), f_Hall_layDescent G p l = some (1, G1) ∧ Asked G F p l r ∧ Asked G1 F p l r ∧ LayE G1 F p ∧ (∀ c k, ¬ (30 ≤ c ∧ c ≤ 32) → gi G1 c k = gi G c k) ∧ (∀ c k, gp G1 c k = gp G c k) ∧ f_Hall_lawAt G (gi G 7 p) = some (gp G 49 r) := by
  obtain ⟨r, r4, hon, d0, d1, hcu, hlaw, G1, h1, h2, h3, h4⟩ := layD hI hp hdd hl
  obtain ⟨fo, fb⟩ := fam_ok (p := p) hI.2.1 hcu
  have hA : Asked G (famOf G p (cusOf G p l r)) p l r := ⟨hI, fo, fb, rfl, rfl, r4, hon, ⟨d0, d1⟩, by show p < (gi G 1 7).toNat; omega, hl⟩
  exact ⟨_, r, G1, h1, hA, hA.fr (fun c k z => h2 c k (by unfold scr at z; omega)) h3, h4, h2, h3, hlaw⟩
theorem lay_ct {G : GS} {F : Fam} {p : Nat} (hF : FOK F) (hL : LayE G F p) : fb_ct (tb (gi G 31 32)) 32 = fb_ct (fun i => decide (0 < (ev F i 0 (tps F p)).1)) F.2.2.2 := SbK_ct hF.1 ⟨wr_gi _ _ _, hL.2.2⟩
theorem ask_no {G : GS} (hI : Inv G) {p l : Int} (h : ¬ ((0 ≤ p ∧ p < gi G 1 7) ∧ gi G 7 p.toNat ≠ -1 ∧ (0 ≤ l ∧ l < gi G 9 5))) : f_Model_canAsk G p l = some 0 := by
  obtain ⟨hE, hP, hL, -⟩ := hI
  obtain ⟨e0, e1, e10, -⟩ := eqS_in hE
  have k0 := hP.2.2.1
  have k1 := hP.2.2.2.1
  have l0 := hL.1
  have l1 := hL.2.1
  have e87 := hE.1 (87, 7) (by decide) p.toNat
  simp only at e87
  rw [ask_M (by omega) (by omega) (by omega) (by omega), e1, e87, e10, if_neg h]
theorem ask_yes {G : GS} (hI : Inv G) {p l : Int} (h : (0 ≤ p ∧ p < gi G 1 7) ∧ gi G 7 p.toNat ≠ -1 ∧ (0 ≤ l ∧ l < gi G 9 5)) : f_Model_canAsk G p l = some 1 := by
  obtain ⟨hE, hP, hL, -⟩ := hI
  obtain ⟨e0, e1, e10, -⟩ := eqS_in hE
  have k0 := hP.2.2.1
  have k1 := hP.2.2.2.1
  have l0 := hL.1
  have l1 := hL.2.1
  have e87 := hE.1 (87, 7) (by decide) p.toNat
  simp only at e87
  rw [ask_M (by omega) (by omega) (by omega) (by omega), e1, e87, e10, if_pos h]
theorem step_heirs : Step_heirs Inv := by
  intro G p l hp hl hI
  by_cases c : (0 ≤ p ∧ p < gi G 1 7) ∧ gi G 7 p.toNat ≠ -1 ∧ (0 ≤ l ∧ l < gi G 9 5)
  · obtain ⟨pn, rfl⟩ : ∃ k : Nat, p = k := ⟨p.toNat, by omega⟩
    obtain ⟨ln, rfl⟩ : ∃ k : Nat, l = k := ⟨l.toNat, by omega⟩
    rw [Int.toNat_natCast] at c
    obtain ⟨F, r, G1, h1, hA, hA1, hL, h2, h3, -⟩ := ask_in hI c.1.2 c.2.1 c.2.2.2
    obtain ⟨G2, u1, u2⟩ := heirs_M hA1
    have hb := bitc_all G1 (gi G1 31 32)
    rw [lay_ct hA.2.1 hL] at hb
    have hcy : f_Model_canAsk G1 pn ln = some 1 := ask_yes hA1.1 (by
      rw [Int.toNat_natCast, h2 1 7 (by omega), h2 7 _ (by omega), h2 9 5 (by omega)]; exact c)
    refine ⟨(((fb_ct (fun i => decide (0 < (ev F i 0 (tps F pn)).1)) F.2.2.2 : Nat) : Int), G1), (((fb_ct (fun i => decide (0 < (ev F i 0 (tps F pn)).1)) F.2.2.2 : Nat) : Int), G2), ?_, ?_, rfl, u2.inv hA1.1⟩
    · simp only [f_Hall_heirs, h1, Option.bind_some, if_neg (show ¬ (1 : Int) = 0 by decide), f_Descent_heirSet, hb]
    · show f_Model_heirs G1 pn ln = _
      simp only [f_Model_heirs, hcy, Option.bind_some, if_neg (show ¬ (1 : Int) = 0 by decide), u1]
  · refine ⟨(-1, G), (-1, G), ?_, ?_, rfl, hI⟩
    · simp only [f_Hall_heirs, layD_no hI.2.1 c, Option.bind_some, if_true]
    · show f_Model_heirs G p l = _
      simp only [f_Model_heirs, ask_no hI c, Option.bind_some, if_true]
theorem step_share : Step_share Inv := by
  intro G p l q w hp hl hq hw hI
  have hP := hI.2.1
  have k1 := hP.2.2.2.1
  have k0 := hP.2.2.1
  have e1 := (eqS_in hI.1).2.1
  have hH := has_eq G q
  by_cases c : ((0 ≤ p ∧ p < gi G 1 7) ∧ gi G 7 p.toNat ≠ -1 ∧ (0 ≤ l ∧ l < gi G 9 5)) ∧ (0 ≤ q ∧ q < gi G 1 7) ∧ (0 ≤ w ∧ w ≤ 5)
  · obtain ⟨c, cq, cw⟩ := c
    obtain ⟨pn, rfl⟩ : ∃ k : Nat, p = k := ⟨p.toNat, by omega⟩
    obtain ⟨ln, rfl⟩ : ∃ k : Nat, l = k := ⟨l.toNat, by omega⟩
    obtain ⟨qn, rfl⟩ : ∃ k : Nat, q = k := ⟨q.toNat, by omega⟩
    rw [Int.toNat_natCast] at c
    obtain ⟨F, r, G1, h1, hA, hA1, hL, h2, h3, -⟩ := ask_in hI c.1.2 c.2.1 c.2.2.2
    rw [if_pos cq] at hH
    obtain ⟨way, hway, hdv, hh⟩ : ∃ way : Int, (0 ≤ way ∧ way ≤ 2) ∧ dv w 2 = way ∧ f_Hall_share G pn ln qn w = f_Hall_share_L56 G1 qn w way := by
      have h0 : f_Hall_share G pn ln qn w = if 2 ≤ w then (if 4 ≤ w then f_Hall_share_L56 G1 qn w 2 else f_Hall_share_L56 G1 qn w 1) else f_Hall_share_L56 G1 qn w 0 := by
        simp only [f_Hall_share, if_neg (show ¬ w < 0 by omega), if_neg (show ¬ 5 < w by omega), hH, h1, Option.bind_some, if_neg (show ¬ (1 : Int) = 0 by decide)]
      have hd := dv_nn (x := w) (y := 2) (by omega) (by omega) (by decide) (by decide)
      by_cases w1 : 2 ≤ w
      · by_cases w2 : 4 ≤ w
        · exact ⟨2, by decide, by rw [hd]; omega, by rw [h0, if_pos w1, if_pos w2]⟩
        · exact ⟨1, by decide, by rw [hd]; omega, by rw [h0, if_pos w1, if_neg w2]⟩
      · exact ⟨0, by decide, by rw [hd]; omega, by rw [h0, if_neg w1]⟩
    obtain ⟨G2, s1, s2, s3, s4, s5, s6⟩ := part_eq (how := way) hA.2.1 hA1.2.2.2.2.2.2.2.2.1 hL (q := qn) (by omega)
    have hA2 : Asked G2 F pn ln r := hA1.fr (fun c k _ => s2 c k) s3
    obtain ⟨G3, t1, t2, t3⟩ := partM (q := qn) (way := way) hA2 hway
    have hcy : f_Model_canAsk G2 pn ln = some 1 := ask_yes hA2.1 (by
      rw [Int.toNat_natCast, s2, s2, s2, h2 1 7 (by omega), h2 7 _ (by omega), h2 9 5 (by omega)]; exact c)
    have hpe : f_Model_isPerson G2 qn = some 1 := by
      have e2 : gi G2 81 1 = gi G 81 1 := by rw [s2, h2 81 1 (by omega)]
      have := isPerson_eq (G := G2) (qn : Int) (by omega) (by omega)
      rw [e2, e1, if_pos cq] at this
      exact this
    have hin := isIn_eq G2 w 0 5
    rw [if_pos cw] at hin
    have hI3 := t2.inv hA2.1
    by_cases z : md w 2 = 0
    · refine ⟨(((ev F qn way (tps F pn)).1 : Int), G2), (((ev F qn way (tps F pn)).1 : Int), G3), ?_, ?_, rfl, hI3⟩
      · rw [hh]
        simp only [f_Hall_share_L56, s1, Option.bind_some, if_pos z, f_Descent_partAbove, s5]
      · show f_Model_share G2 pn ln qn w = _
        simp only [f_Model_share, hcy, hpe, hin, Option.bind_some, if_neg (show ¬ (1 : Int) = 0 by decide), hdv, t1, if_pos z, t3.1]
    · refine ⟨(((ev F qn way (tps F pn)).2 : Int), G2), (((ev F qn way (tps F pn)).2 : Int), G3), ?_, ?_, rfl, hI3⟩
      · rw [hh]
        simp only [f_Hall_share_L56, s1, Option.bind_some, if_neg z, f_Descent_partBelow, s6]
      · show f_Model_share G2 pn ln qn w = _
        simp only [f_Model_share, hcy, hpe, hin, Option.bind_some, if_neg (show ¬ (1 : Int) = 0 by decide), hdv, t1, if_neg z, t3.2]
  · by_cases ca : (0 ≤ p ∧ p < gi G 1 7) ∧ gi G 7 p.toNat ≠ -1 ∧ (0 ≤ l ∧ l < gi G 9 5)
    · refine ⟨(-1, G), (-1, G), ?_, ?_, rfl, hI⟩
      · simp only [f_Hall_share, hH, Option.bind_some, ite01]
        by_cases a1 : w < 0
        · rw [if_pos a1]
        rw [if_neg a1]
        by_cases a2 : 5 < w
        · rw [if_pos a2]
        rw [if_neg a2, if_pos (fun z => c ⟨ca, z, by omega⟩)]
      · show f_Model_share G p l q w = _
        have hpe := isPerson_eq (G := G) q (by omega) (by omega)
        rw [e1] at hpe
        have hin := isIn_eq G w 0 5
        simp only [f_Model_share, ask_yes hI ca, hpe, hin, Option.bind_some, if_neg (show ¬ (1 : Int) = 0 by decide), ite01]
        by_cases a1 : ¬ (0 ≤ q ∧ q < gi G 1 7)
        · rw [if_pos a1]
        rw [if_neg a1, if_pos (fun z => c ⟨ca, Classical.not_not.mp a1, z⟩)]
    · refine ⟨(-1, G), (-1, G), ?_, ?_, rfl, hI⟩
      · simp only [f_Hall_share, hH, layD_no hP ca, Option.bind_some, ite01]
        by_cases a1 : w < 0
        · rw [if_pos a1]
        rw [if_neg a1]
        by_cases a2 : 5 < w
        · rw [if_pos a2]
        rw [if_neg a2]
        by_cases a3 : ¬ (0 ≤ q ∧ q < gi G 1 7)
        · rw [if_pos a3]
        rw [if_neg a3, if_pos trivial]
      · show f_Model_share G p l q w = _
        simp only [f_Model_share, ask_no hI ca, Option.bind_some, if_true]
