/-! the steps of proof and proved -/
theorem dbt_L {GC GM : GS} {p n : Nat} {f w : Int} (hC : MD GC p n) (hM : MD GM p n) (hlo : loF GM p = loF GC p) (hhi : hiF GM p = hiF GC p) (hf : 0 ≤ f ∧ f ≤ 29999) (e1 : gi GC 23 5 = f) (e2 : gi GM 81 79 = f) : ∀ (k m : Nat) (x : Int), m ≤ n → n - m < k → ∃ v, f_Remembered_doubted_L4 GC k p x m = some v ∧ f_Model_proof_L38 k GM p w x m = f_Model_proof_L38 1 GM p w v n := by
  intro k
  induction k with
  | zero => intro m x q1 q2; omega
  | succ k ih =>
    intro m x q1 q2
    obtain ⟨h1, h2, h3, -⟩ := id hC
    have h4 := hM.2.2.2.1
    have g1 : (0 : Int) ≤ (p : Int) ∧ (p : Int) < 32 := by omega
    by_cases c : (n : Int) ≤ m
    · have : m = n := by omega
      subst this
      refine ⟨x, by simp only [f_Remembered_doubted_L4, gd, if_pos g1, Int.toNat_natCast, h3, if_pos c], ?_⟩
      simp only [f_Model_proof_L38, gd, if_pos g1, Int.toNat_natCast, h4, if_pos c]
    · have hw : wr ((m : Int) + 1) = ((m + 1 : Nat) : Int) := by rw [wr_of (by omega) (by omega)]; omega
      have hw1 : wr (24 * (p : Int) + m) = ((24 * p + m : Nat) : Int) := by rw [wr_of (by omega) (by omega)]; omega
      have a1 := agC_eq hC (show m < n by omega) f
      have a2 := agM_eq hM (show m < n by omega) hf
      rw [hlo, hhi] at a2
      by_cases z : loF GC p m ≤ f ∧ f ≤ hiF GC p m
      · rw [if_pos z] at a1 a2
        obtain ⟨v, r1, r2⟩ := ih (m + 1) (bOr x 0) (by omega) (by omega)
        refine ⟨v, ?_, ?_⟩
        · rw [← r1]
          simp only [f_Remembered_doubted_L4, gd, if_pos g1, Int.toNat_natCast, h3, if_neg c, e1, a1, Option.bind_some, if_neg (show ¬ (1 : Int) = 0 by decide), f_Remembered_doubted_L35, hw]
        · rw [← r2]
          rw [f_Model_proof_L38]
          simp only [gd, if_pos g1, Int.toNat_natCast, h4, if_neg c, e2, hw1, a2, Option.bind_some, if_neg (show ¬ (1 : Int) = 0 by decide), f_Model_proof_L76, hw]
      · rw [if_neg z] at a1 a2
        obtain ⟨v, r1, r2⟩ := ih (m + 1) (bOr x (bShl 1 m)) (by omega) (by omega)
        refine ⟨v, ?_, ?_⟩
        · rw [← r1]
          simp only [f_Remembered_doubted_L4, gd, if_pos g1, Int.toNat_natCast, h3, if_neg c, e1, a1, Option.bind_some, if_true, f_Remembered_doubted_L35, hw]
        · rw [← r2]
          rw [f_Model_proof_L38]
          simp only [gd, if_pos g1, Int.toNat_natCast, h4, if_neg c, e2, hw1, a2, Option.bind_some, if_true, f_Model_proof_L76, hw]
theorem MD_of {G : GS} (hI : Inv G) {p : Nat} (hp : (p : Int) < gi G 1 7) : MD G p (gi G 25 p).toNat := by
  obtain ⟨hE, hP, hL, hR, hS, hT, hM, hJ, hK⟩ := hI
  have k1 := hP.2.2.2.1
  have pk := hP.2.2.2.2.1 p hp
  unfold POK at pk
  have e89 := hE.1 (89, 25) (by decide) p
  have e130 := hE.1 (130, 24) (by decide)
  simp only at e89 e130
  exact ⟨by omega, by omega, by omega, by omega, e130, hM.1, fun m hm => hM.2 p m hp (by omega)⟩
theorem step_proof : Step_proof Inv := by
  intro G a w ha hw hI
  have hE := hI.1
  have hP := hI.2.1
  have k0 := hP.2.2.1
  have k1 := hP.2.2.2.1
  have e1 := (eqS_in hE).2.1
  have e89 := hE.1 (89, 25) (by decide) a.toNat
  simp only at e89
  have hH1 := has_eq G a
  have hM1 := isPerson_eq (G := G) a (by omega) (by omega)
  rw [e1] at hM1
  have hIn := isIn_eq G w 0 4
  by_cases c1 : 0 ≤ a ∧ a < gi G 1 7
  · rw [if_pos c1] at hH1 hM1
    obtain ⟨p, rfl⟩ : ∃ p : Nat, a = p := ⟨a.toNat, by omega⟩
    have g1 : (0 : Int) ≤ (p : Int) ∧ (p : Int) < 32 := by omega
    rw [Int.toNat_natCast] at e89
    by_cases c2 : 0 ≤ w ∧ w ≤ 4
    · rw [if_pos c2] at hIn
      by_cases c3 : gi G 25 p = 0
      · refine ⟨(-1, G), (-1, G), ?_, ?_, rfl, hI⟩
        · simp only [f_Hall_proof, if_neg (show ¬ w < 0 by omega), if_neg (show ¬ 4 < w by omega), hH1, Option.bind_some, if_neg (show ¬ (1 : Int) = 0 by decide), gd, if_pos g1, Int.toNat_natCast, if_pos c3]
        · show f_Model_proof G p w = _
          simp only [f_Model_proof, hM1, Option.bind_some, if_neg (show ¬ (1 : Int) = 0 by decide), gd, if_pos g1, Int.toNat_natCast, e89, if_pos c3]
      · obtain ⟨n, hn⟩ : ∃ n, n = (gi G 25 p).toNat := ⟨_, rfl⟩
        have hMD := MD_of hI c1.2
        rw [← hn] at hMD
        obtain ⟨G1, r1, r2, r3, r4⟩ := prove_eq hMD
        obtain ⟨hMD1, hlo1, hhi1⟩ := MD_fr (G' := G1) (fun c k q => r2 c k (by omega)) hMD
        obtain ⟨G2, u1, u2, u3, u4⟩ := proves_eq hMD1
        rw [hlo1, hhi1] at u4
        obtain ⟨hMD2, hlo2, hhi2⟩ := MD_fr (G' := G2) (fun c k q => u2 c k (by omega)) hMD1
        obtain ⟨s1, s2, s3, s4, s5⟩ := prf_same hMD.2.1 r4 u4
        obtain ⟨v, t1, t2⟩ := dbt_L (w := w) hMD1 hMD2 hlo2 hhi2 (f := gi G1 23 5) (by omega) rfl s1 FU 0 0 (by omega) (by have := hMD.2.1; unfold FU; omega)
        have hI2 : Inv G2 := Inv_scr (fun c k q => by
          unfold scr at q
          rw [u2 c k (by omega), r2 c k (by omega)]) (fun c k => by rw [u3, r3]) hI
        have hM1' : f_Model_isPerson G1 p = some 1 := by
          have := isPerson_eq (G := G1) (p : Int) (by rw [r2 81 1 (by omega)]; omega) (by rw [r2 81 1 (by omega)]; omega)
          rw [r2 81 1 (by omega), e1, if_pos c1] at this
          exact this
        have hIn' := isIn_eq G1 w 0 4
        rw [if_pos c2] at hIn'
        have e89' : gi G1 89 p = gi G 25 p := by rw [r2 89 p (by omega)]; exact e89
        have h4 := hMD2.2.2.2.1
        have hMd : f_Model_proof G1 p w = f_Model_proof_L38 1 G2 p w v n := by
          simp only [f_Model_proof, hM1', Option.bind_some, if_neg (show ¬ (1 : Int) = 0 by decide), gd, if_pos g1, Int.toNat_natCast, e89', if_neg c3, hIn', u1]
          exact t2
        have hMd2 : f_Model_proof G1 p w = some (if w = 0 then gi G1 23 5 else if w = 1 then gi G1 23 6 else if w = 2 then gi G1 23 7 else if w = 3 then gi G1 23 8 else v, G2) := by
          rw [hMd]
          simp only [f_Model_proof_L38, gd, if_pos g1, Int.toNat_natCast, h4, if_pos (Int.le_refl _), s1, s2, s3, s5, Option.bind_some]
          by_cases w0 : w = 0
          · simp only [if_pos w0]
          · by_cases w1 : w = 1
            · simp only [if_neg w0, if_pos w1]
            · by_cases w2 : w = 2
              · simp only [if_neg w0, if_neg w1, if_pos w2]
              · by_cases w3 : w = 3
                · simp only [if_neg w0, if_neg w1, if_neg w2, if_pos w3]
                  rcases r4.2.2.2.1 with z | z
                  · rw [z]; rfl
                  · rw [z]; rfl
                · simp only [if_neg w0, if_neg w1, if_neg w2, if_neg w3]
        have t1' : f_Remembered_doubted G1 p = some v := t1
        refine ⟨(if w = 0 then gi G1 23 5 else if w = 1 then gi G1 23 6 else if w = 2 then gi G1 23 7 else if w = 3 then gi G1 23 8 else v, G1), (if w = 0 then gi G1 23 5 else if w = 1 then gi G1 23 6 else if w = 2 then gi G1 23 7 else if w = 3 then gi G1 23 8 else v, G2), ?_, hMd2, rfl, hI2⟩
        simp only [f_Hall_proof, if_neg (show ¬ w < 0 by omega), if_neg (show ¬ 4 < w by omega), hH1, Option.bind_some, if_neg (show ¬ (1 : Int) = 0 by decide), gd, if_pos g1, Int.toNat_natCast, if_neg c3, r1, t1']
        by_cases w0 : w = 0
        · simp only [if_pos w0]
        · by_cases w1 : w = 1
          · simp only [if_neg w0, if_pos w1]
          · by_cases w2 : w = 2
            · simp only [if_neg w0, if_neg w1, if_pos w2]
            · by_cases w3 : w = 3
              · simp only [if_neg w0, if_neg w1, if_neg w2, if_pos w3]
                rcases r4.2.2.2.1 with z | z
                · rw [z]; rfl
                · rw [z]; rfl
              · simp only [if_neg w0, if_neg w1, if_neg w2, if_neg w3]
    · rw [if_neg c2] at hIn
      refine ⟨(-1, G), (-1, G), ?_, ?_, rfl, hI⟩
      · unfold f_Hall_proof
        by_cases z : w < 0
        · rw [if_pos z]
        · rw [if_neg z, if_pos (by omega)]
      · show f_Model_proof G p w = _
        simp only [f_Model_proof, hM1, Option.bind_some, if_neg (show ¬ (1 : Int) = 0 by decide), gd, if_pos g1, Int.toNat_natCast, hIn, if_true]
        split <;> rfl
  · rw [if_neg c1] at hH1 hM1
    refine ⟨(-1, G), (-1, G), ?_, ?_, rfl, hI⟩
    · simp only [f_Hall_proof, hH1, Option.bind_some, if_true]
      split
      · rfl
      · split <;> rfl
    · show f_Model_proof G a w = _
      simp only [f_Model_proof, hM1, Option.bind_some, if_true]
theorem step_proved : Step_proved Inv := by
  intro G a ha hI
  have hE := hI.1
  have hP := hI.2.1
  have k0 := hP.2.2.1
  have k1 := hP.2.2.2.1
  have n1 := hP.2.1
  obtain ⟨e0, e1, -⟩ := eqS_in hE
  have e89 := hE.1 (89, 25) (by decide) a.toNat
  have e87 := hE.1 (87, 7) (by decide) a.toNat
  simp only at e89 e87
  have hH1 := has_eq G a
  have hM1 := isPerson_eq (G := G) a (by omega) (by omega)
  rw [e1] at hM1
  by_cases c1 : 0 ≤ a ∧ a < gi G 1 7
  · rw [if_pos c1] at hH1 hM1
    obtain ⟨p, rfl⟩ : ∃ p : Nat, a = p := ⟨a.toNat, by omega⟩
    have g1 : (0 : Int) ≤ (p : Int) ∧ (p : Int) < 32 := by omega
    rw [Int.toNat_natCast] at e89 e87
    by_cases c3 : gi G 25 p = 0
    · refine ⟨(0, G), (0, G), ?_, ?_, rfl, hI⟩
      · simp only [f_Hall_proved, hH1, Option.bind_some, if_neg (show ¬ (1 : Int) = 0 by decide), gd, if_pos g1, Int.toNat_natCast, if_pos c3]
      · show f_Model_proved G p = _
        simp only [f_Model_proved, hM1, Option.bind_some, if_neg (show ¬ (1 : Int) = 0 by decide), gd, if_pos g1, Int.toNat_natCast, e89, if_pos c3]
    · obtain ⟨n, hn⟩ : ∃ n, n = (gi G 25 p).toNat := ⟨_, rfl⟩
      have hMD := MD_of hI c1.2
      rw [← hn] at hMD
      obtain ⟨G1, r1, r2, r3, r4⟩ := prove_eq hMD
      have hI1 : Inv G1 := Inv_scr (fun c k q => by unfold scr at q; exact r2 c k (by omega)) r3 hI
      obtain ⟨hMD1, hlo1, hhi1⟩ := MD_fr (G' := G1) (fun c k q => r2 c k (by omega)) hMD
      by_cases c8 : gi G1 23 8 = 0
      · -- not sure
        obtain ⟨G2, u1, u2, u3, u4⟩ := proves_eq hMD1
        rw [hlo1, hhi1] at u4
        obtain ⟨s1, s2, s3, s4, s5⟩ := prf_same hMD.2.1 r4 u4
        rw [c8] at s5
        have hM1' : f_Model_isPerson G1 p = some 1 := by
          have := isPerson_eq (G := G1) (p : Int) (by rw [r2 81 1 (by omega)]; omega) (by rw [r2 81 1 (by omega)]; omega)
          rw [r2 81 1 (by omega), e1, if_pos c1] at this
          exact this
        have e89' : gi G1 89 p = gi G 25 p := by rw [r2 89 p (by omega)]; exact e89
        refine ⟨(0, G1), (0, G2), ?_, ?_, rfl, Inv_scr (fun c k q => by unfold scr at q; exact u2 c k (by omega)) u3 hI1⟩
        · simp only [f_Hall_proved, hH1, Option.bind_some, if_neg (show ¬ (1 : Int) = 0 by decide), gd, if_pos g1, Int.toNat_natCast, if_neg c3, r1, if_pos c8]
        · show f_Model_proved G1 p = _
          simp only [f_Model_proved, hM1', Option.bind_some, if_neg (show ¬ (1 : Int) = 0 by decide), gd, if_pos g1, Int.toNat_natCast, e89', if_neg c3, u1, s5, if_true]
      · have hday := (prf_same hMD.2.1 r4 (proves_eq hMD).choose_spec.2.2.2).2.2.2.1
        obtain ⟨q1, q2, b1, b2, b3, b4⟩ := step_born G1 p (gi G1 23 5) (gi G1 23 6) ha (wr_gi _ _ _) (wr_gi _ _ _) hI1
        have hb1 := H_born (G := G1) (p := (p : Int)) (a := gi G1 23 5) (b := gi G1 23 6) (by rw [r2 1 7 (by omega)]; exact k1)
        -- the class's last store keeps the memories
        have q1f : ∀ c k, ¬ (c = 5 ∨ c = 6) → gi q1.2 c k = gi G1 c k := fun c k q => by
          rw [hb1] at b1
          have : q1 = _ := (Option.some.inj b1).symm
          rw [this]
          split
          · show gi (si (si G1 5 _ _) 6 _ _) c k = _
            rw [gi_si, if_neg (by omega), gi_si, if_neg (by omega)]
          · rfl
        have q1g : ∀ c k, gp q1.2 c k = gp G1 c k := fun c k => by
          rw [hb1] at b1
          have : q1 = _ := (Option.some.inj b1).symm
          rw [this]
          split <;> rfl
        obtain ⟨hMD2, hlo2, hhi2⟩ := MD_fr (G' := q1.2) (fun c k q => q1f c k (by omega)) hMD1
        obtain ⟨G2, u1, u2, u3, u4⟩ := proves_eq hMD2
        rw [hlo2, hhi2, hlo1, hhi1] at u4
        obtain ⟨s1, s2, s3, s4, s5⟩ := prf_same hMD.2.1 r4 u4
        have h81 : gi q1.2 81 1 = gi G 1 7 := by rw [q1f 81 1 (by omega), r2 81 1 (by omega)]; exact e1
        have h810 : gi q1.2 81 0 = gi G 0 14 := by rw [q1f 81 0 (by omega), r2 81 0 (by omega)]; exact e0
        have hM1' : f_Model_isPerson q1.2 p = some 1 := by
          have := isPerson_eq (G := q1.2) (p : Int) (by omega) (by omega)
          rw [h81, if_pos c1] at this
          exact this
        have e89' : gi q1.2 89 p = gi G 25 p := by rw [q1f 89 p (by omega), r2 89 p (by omega)]; exact e89
        have mb1 := M_born (G := q1.2) (p := (p : Int)) (a := gi G1 23 5) (b := gi G1 23 6) (by omega) (by omega) (by omega)
        have mb2 := M_born (G := G2) (p := (p : Int)) (a := gi G1 23 5) (b := gi G1 23 6) (by rw [u2 81 1 (by omega)]; omega) (by rw [u2 81 1 (by omega)]; omega) (by rw [u2 81 0 (by omega)]; omega)
        rw [u2 81 1 (by omega), u2 81 0 (by omega), u2 87 _ (by omega)] at mb2
        rw [mb1] at b2
        have hq2 : q2 = _ := (Option.some.inj b2).symm
        have hMo : ∀ r : Int × GS, f_Model_born G2 p (gi G1 23 5) (gi G1 23 6) = some r → f_Model_proved q1.2 p = if r.1 = 0 then some (0, r.2) else some (1, r.2) := fun r hr => by
          simp only [f_Model_proved, hM1', Option.bind_some, if_neg (show ¬ (1 : Int) = 0 by decide), gd, if_pos g1, Int.toNat_natCast, e89', if_neg c3, u1, s5, if_neg c8, s1, s2, hr]
        have hHo : f_Hall_proved G p = if q1.1 = 0 then some (0, q1.2) else some (1, q1.2) := by
          simp only [f_Hall_proved, hH1, Option.bind_some, if_neg (show ¬ (1 : Int) = 0 by decide), gd, if_pos g1, Int.toNat_natCast, if_neg c3, r1, if_neg c8, b1]
        by_cases cc : 0 ≤ (p : Int) ∧ (p : Int) < gi q1.2 81 1 ∧ (0 ≤ gi G1 23 5 ∧ gi G1 23 5 ≤ gi G1 23 6 ∧ gi G1 23 6 ≤ gi q1.2 81 0) ∧ (gi q1.2 87 (p : Int).toNat = -1 ∨ gi G1 23 5 ≤ gi q1.2 87 (p : Int).toNat)
        · rw [if_pos cc] at mb2 hq2
          have x1 : q1.1 = 1 := by rw [b3, hq2]
          refine ⟨(1, q1.2), (1, si (si G2 85 (p : Int).toNat (gi G1 23 5)) 86 (p : Int).toNat (gi G1 23 6)), ?_, ?_, rfl, ?_⟩
          · rw [hHo, x1, if_neg (by decide)]
          · show f_Model_proved q1.2 p = _
            rw [hMo _ mb2, if_neg (show ¬ (1 : Int) = 0 by decide)]
          · refine Inv_scr (fun c k q => ?_) (fun c k => ?_) b4
            · rw [hq2]
              show gi (si (si G2 85 _ _) 86 _ _) c k = gi (si (si q1.2 85 _ _) 86 _ _) c k
              have : gi G2 c k = gi q1.2 c k := u2 c k (by unfold scr at q; omega)
              rw [gi_si, gi_si, gi_si, gi_si, this]
            · rw [hq2]; exact u3 c k
        · rw [if_neg cc] at mb2 hq2
          have x1 : q1.1 = 0 := by rw [b3, hq2]
          refine ⟨(0, q1.2), (0, G2), ?_, ?_, rfl, ?_⟩
          · rw [hHo, x1, if_pos rfl]
          · show f_Model_proved q1.2 p = _
            rw [hMo _ mb2, if_pos rfl]
          · refine Inv_scr (fun c k q => ?_) (fun c k => ?_) b4
            · rw [hq2]; exact u2 c k (by unfold scr at q; omega)
            · rw [hq2]; exact u3 c k
  · rw [if_neg c1] at hH1 hM1
    refine ⟨(0, G), (0, G), ?_, ?_, rfl, hI⟩
    · simp only [f_Hall_proved, hH1, Option.bind_some, if_true]
    · show f_Model_proved G a = _
      simp only [f_Model_proved, hM1, Option.bind_some, if_true]
