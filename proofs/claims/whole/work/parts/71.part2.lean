/-! all parts, as the class reckons them -/
theorem FC_lf {G G' : GS} {F : Fam} {x : Nat} (h : Lf x G G') (hC : FC G F) : FC G' F := FC_fr (fun c k _ _ _ => h.1 c k) hC
theorem Lay_lf {G G' : GS} {F : Fam} {x : Nat} (h : Lf x G G') (hL : Lay G F 0) : Lay G' F 0 := by
  obtain ⟨h1, h2, h3⟩ := hL
  exact ⟨FC_lf h h1, fun i hi => by rw [h.1]; exact h2 i hi, fun c a b => ⟨fun j hj => by rw [h.1]; exact (h3 c a b).1 j hj, fun y => by rw [h.1]; exact (h3 c a b).2.1 y, fun y => by rw [h.1]; exact (h3 c a b).2.2 y⟩⟩
theorem LayE_lf {G G' : GS} {F : Fam} {x dead : Nat} (h : Lf x G G') (hL : LayE G F dead) : LayE G' F dead := ⟨Lay_lf h hL.1, by rw [h.1]; exact hL.2.1, fun j hj => by rw [h.1]; exact hL.2.2 j hj⟩
theorem PrtC_lf {G G' : GS} {v : Nat → Nat × Nat} {x c : Nat} (h : Lf x G G') (hc : c ≠ x) (hp : PrtC G v c) : PrtC G' v c := ⟨by rw [h.2.2 33 c (by omega)]; exact hp.1, by rw [h.2.2 34 c (by omega)]; exact hp.2⟩
theorem part35z {G : GS} {x : Nat} {how : Int} {s0 : Nat} (hx : x < 33) (hs : s0 ≤ 1) : ∃ G1, f_Descent_partOf_L35 G x how 0 (s0 : Int) x = some G1 ∧ Lf x G G1 ∧ gl G1 33 x = (s0 : Int) ∧ gl G1 34 x = ((1 : Nat) : Int) := by
  have gx : (0 : Int) ≤ (x : Int) ∧ (x : Int) < 33 := by omega
  have hz : ∀ A, bAnd 0 A = 0 := fun A => by rw [and_z]; intro i _ q; rw [tb_0] at q; cases q.1
  have ho : ∀ G', f_Descent_oneTakesAll G' 0 = some 0 := fun G' => by
    unfold f_Descent_oneTakesAll
    rw [if_pos (hz _)]
    split <;> rfl
  refine ⟨sl (sl G 33 x s0) 34 x 1, ?_, (Lf_sl (Or.inl rfl)).trans (Lf_sl (Or.inr rfl)), ?_, ?_⟩
  · simp only [f_Descent_partOf_L35, gd, if_pos gx, wG, Int.toNat_natCast, ho, Option.bind_some, if_true]
  · rw [gl_sl, if_neg (by omega), gl_sl, if_pos ⟨rfl, rfl⟩]; exact wl_nat (by omega)
  · rw [gl_sl, if_pos ⟨rfl, rfl⟩]; exact wl_nat (n := 1) (by decide)
theorem part72 {G : GS} {v : Nat → Nat × Nat} {x f : Nat} (hx : x < 33) (hf : f < 33) (hne : f ≠ x) (pf : PrtC G v f) : ∃ G1, f_Descent_partOf_L72 G x f = some G1 ∧ Lf x G G1 ∧ gl G1 33 x = ((v f).1 : Int) ∧ gl G1 34 x = ((v f).2 : Int) := by
  have gx : (0 : Int) ≤ (x : Int) ∧ (x : Int) < 33 := by omega
  have gf : (0 : Int) ≤ (f : Int) ∧ (f : Int) < 33 := by omega
  have u : gl (sl G 33 x ((v f).1 : Int)) 34 f = ((v f).2 : Int) := by rw [gl_sl, if_neg (by omega)]; exact pf.2
  have w1 : wl ((v f).1 : Int) = ((v f).1 : Int) := by rw [← pf.1]; exact wl_gl _ _ _
  have w2 : wl ((v f).2 : Int) = ((v f).2 : Int) := by rw [← pf.2]; exact wl_gl _ _ _
  refine ⟨sl (sl G 33 x ((v f).1 : Int)) 34 x ((v f).2 : Int), ?_, (Lf_sl (Or.inl rfl)).trans (Lf_sl (Or.inr rfl)), ?_, ?_⟩
  · simp only [f_Descent_partOf_L72, gd, if_pos gx, if_pos gf, wG, Int.toNat_natCast, pf.1, u]
  · rw [gl_sl, if_neg (by omega), gl_sl, if_pos ⟨rfl, rfl⟩]; exact w1
  · rw [gl_sl, if_pos ⟨rfl, rfl⟩]; exact w2
theorem part35 {G : GS} {F : Fam} (hF : FOK F) (hL : Lay G F 0) {p x : Nat} (hp : p < F.2.2.2) (hx : x < 33) (hxp : x ≤ p ∨ 32 ≤ x) {but : Int} {S : Int} (hS : SbK S (stk F p but) F.2.2.2) {how : Int} {v : Nat → Nat × Nat} (hg : ∀ c, p < c → c < F.2.2.2 → Gd (v c)) (hB : ∀ i, i ≤ F.2.2.2 → Bd F v i) (hne : anyB (stk F p but) F.2.2.2 = true) (hv : ∀ c, p < c → c < F.2.2.2 → PrtC G v c) : ∃ G1, f_Descent_partOf_L35 G x how S 0 x = some G1 ∧ Lf x G G1 ∧ gl G1 33 x = ((kv F how v p but).1 : Int) ∧ gl G1 34 x = ((kv F how v p but).2 : Int) := by
  have hN := hF.1
  have gx : (0 : Int) ≤ (x : Int) ∧ (x : Int) < 33 := by omega
  have hLf : Lf x G (sl (sl G 33 x 0) 34 x 1) := (Lf_sl (Or.inl rfl)).trans (Lf_sl (Or.inr rfl))
  have n33 : gl (sl (sl G 33 x 0) 34 x 1) 33 x = ((0 : Nat) : Int) := by rw [gl_sl, if_neg (by omega), gl_sl, if_pos ⟨rfl, rfl⟩]; exact wl_nat (n := 0) (by decide)
  have n34 : gl (sl (sl G 33 x 0) 34 x 1) 34 x = ((1 : Nat) : Int) := by rw [gl_sl, if_pos ⟨rfl, rfl⟩]; exact wl_nat (n := 1) (by decide)
  have e0 : f_Descent_partOf_L35 G x how S 0 x = (f_Descent_oneTakesAll (sl (sl G 33 x 0) 34 x 1) S).bind fun q1 => if q1 = 0 then (if S = 0 then some (sl (sl G 33 x 0) 34 x 1) else (f_Descent_addParts (sl (sl G 33 x 0) 34 x 1) x S).bind fun q2 => some q2) else (if how = 0 then (f_Descent_chosen (sl (sl G 33 x 0) 34 x 1) S).bind fun q4 => f_Descent_partOf_L72 (sl (sl G 33 x 0) 34 x 1) x q4 else (f_Descent_boundary (sl (sl G 33 x 0) 34 x 1) S how).bind fun q3 => f_Descent_partOf_L72 (sl (sl G 33 x 0) 34 x 1) x q3) := by
    simp only [f_Descent_partOf_L35, gd, if_pos gx, wG, Int.toNat_natCast]
  rw [e0]
  generalize sl (sl G 33 x 0) 34 x 1 = G2 at *
  have hL2 := Lay_lf hLf hL
  have hv2 : ∀ c, p < c → c < F.2.2.2 → PrtC G2 v c := fun c a b => PrtC_lf hLf (by omega) (hv c a b)
  have h1 := one_eq hF hL2.1 hS hL2.2.1 (by omega)
  unfold kv
  rw [if_pos hne]
  by_cases c : hasS F p but = true ∧ F.2.2.1 ≠ 2
  · rw [if_pos c] at h1 ⊢
    obtain ⟨g0, hg0, -, -⟩ := has_some c.1
    have fin : ∀ f, pk F how (stk F p but) v F.2.2.2 = some f → ∃ G1, f_Descent_partOf_L72 G2 x f = some G1 ∧ Lf x G G1 ∧ gl G1 33 x = ((pkV v (pk F how (stk F p but) v F.2.2.2)).1 : Int) ∧ gl G1 34 x = ((pkV v (pk F how (stk F p but) v F.2.2.2)).2 : Int) := fun f hf => by
      have hf2 := pkB_in _ hf
      have hpf := (stk_gt hf2.2.1).1
      obtain ⟨G1, r1, r2, r3, r4⟩ := part72 hx (f := f) (by omega) (by omega) (hv2 f hpf hf2.1)
      rw [hf]
      exact ⟨G1, r1, hLf.trans r2, r3, r4⟩
    rw [h1, Option.bind_some, if_neg (by decide)]
    by_cases w : how = 0
    · subst w
      rw [if_pos rfl, chosen_eq hF hL2.1 hS hg0, Option.bind_some]
      exact fin g0 (pk0 hg0)
    · rw [if_neg w]
      obtain ⟨f, hf, -, -⟩ := pk_ex hF (way := how) (S := stk F p but) (v := v) (anyB_t.mp hne)
      have hb := bnd_L hF hL2.1 hS w (fun c a b => ⟨hv2 c a b, hg c a b⟩) hB FU 0 (by omega) (by unfold FU; omega)
      rw [hf, show max 0 (oI (some f)) = (f : Int) from by show max 0 (f : Int) = f; omega] at hb
      have hb' : f_Descent_boundary G2 S how = some (f : Int) := hb
      rw [hb', Option.bind_some]
      exact fin f hf
  · rw [if_neg c] at h1 ⊢
    have hS0 : ¬ S = 0 := fun z => by rw [(SbK_z hN hS).mp z] at hne; cases hne
    rw [h1, Option.bind_some, if_pos rfl, if_neg hS0]
    obtain ⟨G1, r1, r2, r3, r4⟩ := add_L hF hx hxp hS hg hB hp hne FU G2 0 (by omega) (by unfold FU; omega) hL2.1 hv2 n33 n34
    have r1' : f_Descent_addParts G2 x S = some G1 := r1
    rw [r1', Option.bind_some]
    have hsm := fin_same (v := v) (S := stk F p but) (n := F.2.2.2) (k := fb_ct (stk F p but) F.2.2.2) (fun i hi hs => hg i (stk_gt hs).1 hi) (ct_pos (anyB_t.mp hne))
    rw [hsm]
    exact ⟨G1, rfl, hLf.trans r2, r3, r4⟩
theorem bit_eq {L : Int} {q : Nat} (hL : wr L = L) (hq : q < 32) : L = bShl 1 (q : Int) ↔ ∀ j, j < 32 → tb L j = decide (j = q) := by
  constructor
  · intro h j _; rw [h, tb_shl hq]
  · intro h; exact tb_ext hL (wr_shl _ _) (fun j hj => by rw [h j hj, tb_shl hq])
theorem partP {G : GS} {F : Fam} (hF : FOK F) (hL : Lay G F 0) {p q : Nat} (hp : p < F.2.2.2) (hq : q < 32) {how : Int} (hv : ∀ c, p < c → c < F.2.2.2 → PrtC G (vv F q how) c) : ∃ G1, f_Descent_partOf G p q how = some G1 ∧ Lf p G G1 ∧ PrtC G1 (vv F q how) p := by
  have hN := hF.1
  have gp0 : (0 : Int) ≤ (p : Int) ∧ (p : Int) < 33 := by omega
  obtain ⟨hLin, hSt⟩ := hL.2.2 p (by omega) hp
  have hbit := bit_eq (L := gi G 31 p) (q := q) (wr_gi _ _ _) hq
  unfold PrtC
  by_cases ha : alv F p = true
  · have hS := hSt.1 ha
    have hline : gi G 31 p = bShl 1 (q : Int) ↔ p = q := by
      rw [hbit]
      have hpb : tb (gi G 31 p) p = true := by
        rw [hLin p (by omega), vv_eq, if_pos ha, decide_eq_true hp, if_pos rfl]; rfl
      constructor
      · intro h
        have := h p (by omega)
        rw [hpb] at this
        exact of_decide_eq_true this.symm
      · rintro rfl j hj
        rw [hLin j hj, vv_eq, if_pos ha]
        by_cases z : j = p
        · subst z
          rw [if_pos rfl, decide_eq_true hp, decide_eq_true (show j = j from rfl)]; rfl
        · rw [if_neg (fun y => z y.symm), decide_eq_false z, decide_eq_false (show ¬ 0 < 0 by decide), Bool.and_false]
    rw [vv_eq, if_pos ha]
    by_cases c : p = q
    · obtain ⟨G1, r1, r2, r3, r4⟩ := part35z (G := G) (x := p) (how := how) (s0 := 1) (by omega) (by decide)
      refine ⟨G1, ?_, r2, ?_, r4⟩
      · simp only [f_Descent_partOf, gd, if_pos gp0, Int.toNat_natCast, hS, if_true, if_pos (hline.mpr c)]
        exact r1
      · rw [if_pos c]; exact r3
    · obtain ⟨G1, r1, r2, r3, r4⟩ := part35z (G := G) (x := p) (how := how) (s0 := 0) (by omega) (by decide)
      refine ⟨G1, ?_, r2, ?_, r4⟩
      · simp only [f_Descent_partOf, gd, if_pos gp0, Int.toNat_natCast, hS, if_true, if_neg (fun z => c (hline.mp z)), f_Descent_partOf_L34]
        exact r1
      · rw [if_neg c]; exact r3
  · have hS := hSt.2 ha
    have hz := SbK_z hN hS
    rw [vv_eq, if_neg ha]
    by_cases c : anyB (stk F p (-1)) F.2.2.2 = true
    · have hS0 : ¬ gi G 32 p = 0 := fun z => by rw [hz.mp z] at c; cases c
      obtain ⟨G1, r1, r2, r3, r4⟩ := part35 hF hL (x := p) hp (by omega) (Or.inl (Nat.le_refl _)) hS (how := how) (fun c _ hc => vv_g hF q how hc) (fun i hi => vv_b hF q how hi) c hv
      refine ⟨G1, ?_, r2, r3, r4⟩
      simp only [f_Descent_partOf, gd, if_pos gp0, Int.toNat_natCast, if_neg hS0, f_Descent_partOf_L34]
      exact r1
    · have c' : anyB (stk F p (-1)) F.2.2.2 = false := by cases z : anyB (stk F p (-1)) F.2.2.2 <;> simp_all
      have hS0 := hz.mpr c'
      have hnl : ¬ gi G 31 p = bShl 1 (q : Int) := fun z => by
        have := hbit.mp z q hq
        rw [hLin q hq, vv_eq, if_neg ha] at this
        have e : kv F 0 (vv F q 0) p (-1) = (0, 1) := by unfold kv; rw [if_neg c]
        rw [e, decide_eq_true (show q = q from rfl), decide_eq_false (show ¬ 0 < (0, 1).1 by decide), Bool.and_false] at this
        cases this
      obtain ⟨G1, r1, r2, r3, r4⟩ := part35z (G := G) (x := p) (how := how) (s0 := 0) (by omega) (by decide)
      refine ⟨G1, ?_, r2, ?_, ?_⟩
      · simp only [f_Descent_partOf, gd, if_pos gp0, Int.toNat_natCast, hS0, if_true, if_neg hnl, f_Descent_partOf_L34]
        exact r1
      · unfold kv; rw [if_neg c]; exact r3
      · unfold kv; rw [if_neg c]; exact r4
theorem partE {G : GS} {F : Fam} (hF : FOK F) {dead : Nat} (hd : dead < F.2.2.2) (hL : LayE G F dead) {q : Nat} (hq : q < 32) {how : Int} (hv : ∀ c, c < F.2.2.2 → PrtC G (vv F q how) c) : ∃ G1, f_Descent_partOf G 32 q how = some G1 ∧ Lf 32 G G1 ∧ gl G1 33 32 = ((ev F q how (tps F dead)).1 : Int) ∧ gl G1 34 32 = ((ev F q how (tps F dead)).2 : Int) := by
  have hN := hF.1
  obtain ⟨hLy, hS, hLin⟩ := hL
  have gp0 : (0 : Int) ≤ ((32 : Nat) : Int) ∧ ((32 : Nat) : Int) < 33 := by decide
  have hbit := bit_eq (L := gi G 31 32) (q := q) (wr_gi _ _ _) hq
  cases ht : tps F dead with
  | none =>
    rw [ht] at hS hLin
    have hS0 : gi G 32 32 = 0 := (SbK_z hN hS).mpr (anyB_f.mpr fun i _ => rfl)
    have hnl : ¬ gi G 31 32 = bShl 1 (q : Int) := fun z => by
      have := hbit.mp z q hq
      have e0 : decide (0 < (ev F q 0 none).1) = false := rfl
      rw [hLin q hq, e0, Bool.and_false, decide_eq_true (show q = q from rfl)] at this
      cases this
    obtain ⟨G1, r1, r2, r3, r4⟩ := part35z (G := G) (x := 32) (how := how) (s0 := 0) (by omega) (by decide)
    refine ⟨G1, ?_, r2, r3, r4⟩
    show f_Descent_partOf G ((32 : Nat) : Int) q how = _
    simp only [f_Descent_partOf, gd, if_pos gp0, Int.toNat_natCast, hS0, if_true, if_neg hnl, f_Descent_partOf_L34]
    exact r1
  | some t =>
    rw [ht] at hS
    have hti := tp_in hF 33 dead (-1) t hd ht
    have hS' : SbK (gi G 32 32) (stk F t.1 t.2) F.2.2.2 := hS
    have hS0 : ¬ gi G 32 32 = 0 := fun z => by
      have := (SbK_z hN hS').mp z
      rw [this] at hti; cases hti.2
    obtain ⟨G1, r1, r2, r3, r4⟩ := part35 hF hLy (x := 32) hti.1 (by decide) (Or.inr (Nat.le_refl _)) hS' (how := how) (fun c _ hc => vv_g hF q how hc) (fun i hi => vv_b hF q how hi) hti.2 (fun c _ hc => hv c hc)
    refine ⟨G1, ?_, r2, r3, r4⟩
    show f_Descent_partOf G ((32 : Nat) : Int) q how = _
    simp only [f_Descent_partOf, gd, if_pos gp0, Int.toNat_natCast, if_neg hS0, f_Descent_partOf_L34]
    exact r1
theorem part_L {F : Fam} (hF : FOK F) {dead : Nat} (hd : dead < F.2.2.2) {q : Nat} (hq : q < 32) {how : Int} : ∀ (p n : Nat) (G : GS), p ≤ F.2.2.2 → p < n → LayE G F dead → (∀ c, p ≤ c → c < F.2.2.2 → PrtC G (vv F q how) c) → ∃ G1, f_Descent_part_L10 n G q how ((p : Int) - 1) = some G1 ∧ (∀ c k, gi G1 c k = gi G c k) ∧ (∀ c k, gp G1 c k = gp G c k) ∧ LayE G1 F dead ∧ gl G1 33 32 = ((ev F q how (tps F dead)).1 : Int) ∧ gl G1 34 32 = ((ev F q how (tps F dead)).2 : Int) := by
  have hN := hF.1
  intro p
  induction p with
  | zero =>
    intro n G _ hn hL hv
    obtain ⟨n', rfl⟩ : ∃ n', n = n' + 1 := ⟨n - 1, by omega⟩
    obtain ⟨G1, r1, r2, r3⟩ := partE hF hd hL hq (how := how) (fun c hc => hv c (by omega) hc)
    refine ⟨G1, ?_, r2.1, r2.2.1, LayE_lf r2 hL, r3⟩
    simp only [f_Descent_part_L10, if_pos (show ((0 : Nat) : Int) - 1 < 0 by decide), r1, Option.bind_some]
  | succ p ih =>
    intro n G hp hn hL hv
    obtain ⟨n', rfl⟩ : ∃ n', n = n' + 1 := ⟨n - 1, by omega⟩
    rw [show ((p + 1 : Nat) : Int) - 1 = (p : Int) by omega]
    have hw : wr ((p : Int) + (-1)) = (p : Int) - 1 := by rw [wr_of (by omega) (by omega)]; omega
    obtain ⟨G1, r1, r2, r3⟩ := partP hF hL.1 (p := p) (by omega) hq (how := how) (fun c a b => hv c a b)
    obtain ⟨G2, u1, u2, u3, u4⟩ := ih n' G1 (by omega) (by omega) (LayE_lf r2 hL) (fun c a b => by
      by_cases z : c = p
      · rw [z]; exact r3
      · exact PrtC_lf r2 z (hv c (by omega) b))
    refine ⟨G2, ?_, fun c k => (u2 c k).trans (r2.1 c k), fun c k => (u3 c k).trans (r2.2.1 c k), u4⟩
    simp only [f_Descent_part_L10, if_neg (show ¬ (p : Int) < 0 by omega), r1, Option.bind_some, hw]
    exact u1
theorem part_eq {G : GS} {F : Fam} (hF : FOK F) {dead : Nat} (hd : dead < F.2.2.2) (hL : LayE G F dead) {q : Nat} (hq : q < 32) {how : Int} : ∃ G1, f_Descent_part G q how = some G1 ∧ (∀ c k, gi G1 c k = gi G c k) ∧ (∀ c k, gp G1 c k = gp G c k) ∧ LayE G1 F dead ∧ gl G1 33 32 = ((ev F q how (tps F dead)).1 : Int) ∧ gl G1 34 32 = ((ev F q how (tps F dead)).2 : Int) := by
  have hN := hF.1
  unfold f_Descent_part
  rw [hL.1.1.1, wr_of (by omega) (by omega)]
  exact part_L hF hd hq F.2.2.2 FU G (Nat.le_refl _) (by unfold FU; omega) hL (fun c a b => by omega)
/-! the family of a question -/
def famOf (G : GS) (p : Nat) (C : Int) : Fam := (fun c k => gi G c k, gi G 7 p, C, (gi G 1 7).toNat)
theorem fam_ok {G : GS} (hP : InvP G) {p : Nat} {C : Int} (hC : C = 0 ∨ C = 1 ∨ C = 2) : FOK (famOf G p C) ∧ FB G (famOf G p C) := by
  have k0 := hP.2.2.1
  have k1 := hP.2.2.2.1
  refine ⟨⟨by show (gi G 1 7).toNat ≤ 32; omega, hC, fun x hx => ?_⟩, by show gi G 1 7 = ((gi G 1 7).toNat : Int); omega, fun c k _ _ => rfl⟩
  have hx' : (x : Int) < gi G 1 7 := by
    have : x < (gi G 1 7).toNat := hx
    omega
  have := hP.2.2.2.2.1 x hx'
  unfold POK at this
  show (gi G 2 x = 0 ∨ gi G 2 x = 1) ∧ (gi G 3 x = -1 ∨ (0 ≤ gi G 3 x ∧ gi G 3 x < x)) ∧ (gi G 4 x = -1 ∨ (0 ≤ gi G 4 x ∧ gi G 4 x < x)) ∧ gi G 5 x ≤ gi G 6 x
  omega
/-- the custom asked for: of the law on the day, in the shire -/
def cusOf (G : GS) (p l r : Nat) : Int := gi G (gp G 49 r + 1) (gi G 10 l).toNat
theorem layD {G : GS} (hI : Inv G) {p l : Nat} (hp : (p : Int) < gi G 1 7) (hdd : gi G 7 p ≠ -1) (hl : (l : Int) < gi G 9 5) : ∃ r, r < 4 ∧ onV G (gi G 7 p) r ∧ 0 ≤ gi G 7 p ∧ gi G 7 p ≤ 29999 ∧ (cusOf G p l r = 0 ∨ cusOf G p l r = 1 ∨ cusOf G p l r = 2) ∧ f_Hall_lawAt G (gi G 7 p) = some (gp G 49 r) ∧ ∃ G1, f_Hall_layDescent G p l = some (1, G1) ∧ (∀ c k, ¬ (30 ≤ c ∧ c ≤ 32) → gi G1 c k = gi G c k) ∧ (∀ c k, gp G1 c k = gp G c k) ∧ LayE G1 (famOf G p (cusOf G p l r)) p := by
  obtain ⟨hE, hP, hL, hR, hS, hT, hM, hJ, hK⟩ := hI
  have k0 := hP.2.2.1
  have k1 := hP.2.2.2.1
  have n1 := hP.2.1
  have l1 := hL.2.1
  have pk := hP.2.2.2.2.1 p hp
  unfold POK at pk
  have lk := hL.2.2.1 l hl
  unfold LOK at lk
  have hday : 0 ≤ gi G 7 p ∧ gi G 7 p ≤ 29999 := by omega
  obtain ⟨r, r4, a1, a2⟩ := on_h (d := gi G 7 p) hR hday.1
  have lr := hK.2.2.2.2 r r4
  have lc := hK.1 r r4
  have r4' : (r : Int) < 4 := by omega
  have hz : f_Hall_lawAt G (gi G 7 p) = some (gp G 49 r) := by
    unfold f_Hall_lawAt
    rw [a2]
    simp [gd, lc, r4']
  have hcu : cusOf G p l r = 0 ∨ cusOf G p l r = 1 ∨ cusOf G p l r = 2 := by
    have := lr.2.2.1 (gi G 10 l).toNat (by omega)
    unfold cusOf
    omega
  obtain ⟨fo, fb⟩ := fam_ok (p := p) hP hcu
  have hpN : p < (famOf G p (cusOf G p l r)).2.2.2 := by show p < (gi G 1 7).toNat; omega
  obtain ⟨G1, s1, s2, s3, s4⟩ := layC_eq fo fb (by show wr (gi G 7 p) = gi G 7 p; exact wr_gi _ _ _) hpN
  refine ⟨r, r4, a1, hday.1, hday.2, hcu, hz, G1, ?_, s2, s3, s4⟩
  have h1 := isDead_eq (G := G) (p : Int) k1
  rw [Int.toNat_natCast, if_pos ⟨by omega, hp, hdd⟩] at h1
  have h2 := lHas_eq G (l : Int)
  rw [if_pos ⟨by omega, hl⟩] at h2
  have s1' : f_Descent_lay G p (gi G 7 p) (gi G (gp G 49 r + 1) (gi G 10 l).toNat) = some G1 := s1
  simp only [f_Hall_layDescent, h1, h2, Option.bind_some, if_neg (show ¬ (1 : Int) = 0 by decide), gd, if_pos (show (0 : Int) ≤ (p : Int) ∧ (p : Int) < 32 by omega), Int.toNat_natCast, hz, if_pos (show (0 : Int) ≤ (l : Int) ∧ (l : Int) < 12 by omega), if_pos (show 0 ≤ gi G 10 l ∧ gi G 10 l < 4 by omega), s1']
theorem layD_no {G : GS} (hP : InvP G) {p l : Int} (h : ¬ ((0 ≤ p ∧ p < gi G 1 7) ∧ gi G 7 p.toNat ≠ -1 ∧ (0 ≤ l ∧ l < gi G 9 5))) : f_Hall_layDescent G p l = some (0, G) := by
  have h1 := isDead_eq (G := G) p hP.2.2.2.1
  have h2 := lHas_eq G l
  simp only [f_Hall_layDescent, h1, h2, Option.bind_some, ite01]
  by_cases a : ¬ (0 ≤ p ∧ p < gi G 1 7 ∧ gi G 7 p.toNat ≠ -1)
  · rw [if_pos a]
  · rw [if_neg a, if_pos (by omega)]
