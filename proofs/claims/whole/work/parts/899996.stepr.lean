theorem FW_out {G G' : GS} {c x k : Nat} (hc : lawC c = true) (h : FW G G' c) (hx : x ≠ 15 ∧ x ≠ 21 ∧ x ≠ 22 ∧ ¬ ((50 ≤ x ∧ x ≤ 80) ∧ x ≠ 74)) : gi G' x k = gi G x k := by
  have hr := law_rng hc
  exact h.1 x k (by omega) (by omega) (by omega) (by omega)
theorem reads_out {G : GS} {a1 : Int} (hI : Inv G) (ha : ¬ (0 ≤ a1 ∧ a1 < gi G 0 12)) : ∃ (q1 : Int × GS) (q2 : Int × GS), f_Hall_reads G a1 = some q1 ∧ f_Model_reads q1.2 a1 = some q2 ∧ q1.1 = q2.1 ∧ Inv q2.2 := by
  have hI0 := hI
  obtain ⟨hE, hP, hL, hR, hS, hT, hM, hJ, hK⟩ := hI
  have eS := eqS_in hE
  have e1 : f_Hall_reads G a1 = some (-1, si G 15 1 0) := by
    rw [f_Hall_reads]
    by_cases z : a1 < 0
    · rw [if_pos z]; rfl
    · rw [if_neg z, if_neg (by omega)]; rfl
  have e16 : gi (si G 15 1 0) 81 16 = gi G 0 12 := by rw [gi_ne (by decide)]; exact eS.2.2.2.1
  have h12 := hR.1
  have h12' := hR.2.1
  refine ⟨(-1, si G 15 1 0), (-1, si (si G 15 1 0) 81 43 0), e1, ?_, rfl, ?_⟩
  · dsimp only
    rw [f_Model_reads, e16, wr_of (x := gi G 0 12 - 1) (by omega) (by omega), isIn_eq, if_neg (by omega), Option.bind_some, if_pos rfl]
    rfl
  · have hg : ∀ x k, ¬ (x = 15 ∧ k = 1) → ¬ (x = 81 ∧ k = 43) → gi (si (si G 15 1 0) 81 43 0) x k = gi G x k := fun x k z1 z2 => by rw [gi_si, if_neg z2, gi_si, if_neg z1]
    refine Inv_reads hI0 (fun x k z1 z2 z3 z4 z5 => hg x k (by omega) (by omega)) ?_ ?_ ?_ ?_ ?_
    · rw [gi_ne (by decide), gi_sm, if_pos rfl]; exact wr_zero
    · rw [gi_sm, if_pos rfl]; exact wr_zero
    · rw [hg 81 50 (by omega) (by omega), hg 15 8 (by omega) (by omega)]; exact eS.2.2.2.2.2.1
    · rw [hg 81 52 (by omega) (by omega), hg 15 9 (by omega) (by omega)]; exact eS.2.2.2.2.2.2.1
    · exact InvK_fr (G := G) (fun _ _ => rfl) (fun x k z => hg x k (by omega) (by omega)) hK
theorem step_reads : Step_reads Inv := by
  intro G a1 hw hI
  by_cases ha : 0 ≤ a1 ∧ a1 < gi G 0 12
  · have hI0 := hI
    obtain ⟨hE, hP, hL, hR, hS, hT, hM, hJ, hK⟩ := hI
    have eS := eqS_in hE
    have h12 := hR.1
    have h12' := hR.2.1
    obtain ⟨k1, k2, k3, k4, k5⟩ := hK
    obtain ⟨r, hr⟩ : ∃ r : Nat, a1 = r := ⟨a1.toNat, by omega⟩
    have hr4 : r < 4 := by omega
    obtain ⟨G1, s1, s2, s3, s4, s5, s6, s7⟩ := begin_C hT
    have hT0 := tx_of hE hT
    have hLL : (gi G 15 1).toNat ≤ 800 := by have := hT.2.1; omega
    have hB : ∀ k, -128 ≤ TB G k ∧ TB G k ≤ 127 := hT0.2.2.2
    generalize hLd : (gi G 15 1).toNat = L at *
    generalize hBd : TB G = B at *
    generalize hq0 : rN isW B L 0 = q0 at *
    have hc : lawC (gp G 0 13) = true := k2
    generalize hcd : gp G 0 13 = c at *
    have hrng := law_rng hc
    have hgp1 : gp G1 0 13 = c := (s4 0 13).trans hcd
    -- the draft is emptied
    have hA1 : atC (sp G1 21 1 c) B L 0 q0 := atC_fr rfl rfl (fun _ _ _ _ => rfl) s2
    have hg1 : gp (sp G1 21 1 c) 21 1 = c := by rw [gp_sp, if_pos ⟨rfl, rfl⟩]
    obtain ⟨G2, p1, p2, p3⟩ := reset_RC hc hA1 (show gi (sp G1 21 1 c) 15 8 = 0 from s6) hg1
    have hread : f_LawReader_read G1 c = f_LawReader_read_L16 FU G2 0 0 := by
      rw [f_LawReader_read]
      show gd (lawC (gp (sp G1 21 1 c) 21 1) = true) ((f_Law_reset (sp G1 21 1 c) (gp (sp G1 21 1 c) 21 1)).bind fun q1 => f_LawReader_read_L16 FU q1 0 0) = _
      rw [hg1, gd, if_pos hc, p1]; rfl
    -- both read, from any store of the reference
    have go : ∀ X : GS, TxM X B L → ∃ H, f_Model_begins X 1 = some H ∧ Mb X H ∧ ((∃ G' H' i' q' ls', f_LawReader_read_L16 FU G2 0 0 = some ((ls'.length : Int), G') ∧ f_Model_reads_L28 FU H a1 1 = f_Model_reads_L47 H' a1 1 ∧ FW G2 G' c ∧ FR H H' ∧ RC G' c B L i' q' (codeL ls') (vUp (gF H') ls'.length) ∧ RM H' B L q' ls' ∧ (∀ l ∈ ls', okL l) ∧ (stepL ls').length ≤ i' ∧ ls'.length ≤ 30) ∨ ∃ G' H' k x, f_LawReader_read_L16 FU G2 0 0 = some (-1, G') ∧ f_Model_reads_L28 FU H a1 1 = f_Model_reads_L47 H' a1 0 ∧ FW G2 G' c ∧ FR H H' ∧ gi G' 15 8 = k ∧ gi G' 15 9 = x ∧ gi H' 81 48 = k ∧ gi H' 81 49 = x ∧ (1 ≤ k ∧ k ≤ 3)) := by
      intro X hX
      obtain ⟨H, b1, b2, b3, b4, b5, b6⟩ := begin_M (f := 1) (Or.inr rfl) hX
      rw [hq0] at b3
      have hRM : RM H B L q0 [] := ⟨b3, b4, b6, fun j hj => by simp [stepL] at hj, b5, fun k hk => by simp at hk⟩
      exact ⟨H, b1, b2, loop_S (a1 := a1) hc hLL hB FU G2 H 0 q0 [] 0 (by unfold FU; omega) p3 hRM (fun l hl => by cases hl) (by simp [stepL]) (by simp) (by omega) (by omega)⟩
    obtain ⟨r0, G3, hex, hF3, hnn⟩ : ∃ r0 G3, f_LawReader_read_L16 FU G2 0 0 = some (r0, G3) ∧ FW G2 G3 c ∧ (gi G3 15 8 = 0 ∨ gi G3 15 8 ≠ 0) := by
      obtain ⟨H, b1, b2, hgo⟩ := go G hT0
      rcases hgo with ⟨G', H', i', q', ls', x1, x2, x3, x4⟩ | ⟨G', H', k, x, x1, x2, x3, x4⟩
      · exact ⟨_, G', x1, x3, Classical.em _⟩
      · exact ⟨_, G', x1, x3, Classical.em _⟩
    -- cells that the class leaves
    have hGc : ∀ x k, ¬ (x = 15 ∧ (k = 1 ∨ (6 ≤ k ∧ k ≤ 9))) → ¬ (18 ≤ x ∧ x ≤ 22) → ¬ (c ≤ x ∧ x ≤ c + 5) → gi G3 x k = gi G x k := fun x k z1 z2 z3 => by
      have e1 : gi G3 x k = gi G2 x k := hF3.1 x k (by omega) (by omega) (by omega) z3
      have e2 : gi G2 x k = gi G1 x k := p2.1 x k (by omega) (by omega) (by omega) z3
      rw [e1, e2, s3 x k (by omega) (by omega)]
    have h151 : gi G3 15 1 = 0 := by
      rw [hF3.1 15 1 (by omega) (by omega) (by omega) (by omega), p2.1 15 1 (by omega) (by omega) (by omega) (by omega)]
      exact s5
    have hGp : ∀ x k, ¬ (x = 21 ∧ k = 1) → gp G3 x k = gp G x k := fun x k z => by
      rw [hF3.2, p2.2, gp_sp, if_neg z, s4]
    have hT3 : TxM G3 B L := hT0.fr (hGc 81 43 (by omega) (by omega) (by omega)) (fun k => hGc 117 k (by omega) (by omega) (by omega))
    have h1816 : gi G3 81 16 = gi G 0 12 := by rw [hGc 81 16 (by omega) (by omega) (by omega)]; exact eS.2.2.2.1
    have hop : ∀ X : GS, gi X 81 16 = gi G 0 12 → f_Model_reads X a1 = (f_Model_begins X 1).bind fun q2 => f_Model_reads_L28 FU q2 a1 1 := by
      intro X hX
      rw [f_Model_reads, hX, wr_of (x := gi G 0 12 - 1) (by omega) (by omega), isIn_eq, if_pos (by omega), Option.bind_some, if_neg (by decide)]
    have hcl : f_Hall_reads G a1 = if r0 = -1 then some (r0, G3) else some (r0, sp (sp G3 49 r c) 0 13 (gp G 49 r)) := by
      have g49 : gp G3 49 r = gp G 49 r := hGp 49 r (by omega)
      have g013 : gp G3 0 13 = c := (hGp 0 13 (by omega)).trans hcd
      have ht : a1.toNat = r := by omega
      rw [f_Hall_reads, if_neg (by omega), if_pos ha.2, s1, Option.bind_some, gd, if_pos (by rw [hgp1]; exact hc), hgp1, hread, hex, Option.bind_some]
      dsimp only
      by_cases z : r0 = -1
      · rw [if_pos z, if_pos z]
      · rw [if_neg z, if_neg z, gd, if_pos (by omega), ht, g49, g013, gd, if_pos (k1 r hr4), gd, if_pos hc, gd, if_pos (by omega)]
        rfl
    rw [hcl]
    by_cases z : r0 = -1
    · rw [if_pos z]
      refine ⟨(r0, G3), ?_⟩
      obtain ⟨H, b1, b2, hgo⟩ := go G3 hT3
      rcases hgo with ⟨G', H', i', q', ls', x1, x2, x3, x4, x5⟩ | ⟨G', H', k, x, x1, x2, x3, x4, x5, x6, x7, x8, x9⟩
      · rw [hex] at x1
        have := (Prod.mk.inj (Option.some.inj x1)).1
        omega
      · rw [hex] at x1
        have hG' := (Prod.mk.inj (Option.some.inj x1)).2
        rw [← hG'] at x5 x6
        refine ⟨(-1, si (si (si H' 81 43 0) 81 50 (gi H' 81 48)) 81 52 (gi H' 81 49)), rfl, ?_, z, ?_⟩
        · dsimp only
          rw [hop G3 h1816, b1, Option.bind_some, x2, f_Model_reads_L47, ends_0]
          rfl
        · have hv := ends_v (H := H') (u := gi H' 81 48) (w := gi H' 81 49) (wr_gi _ _ _) (wr_gi _ _ _)
          have hall : ∀ x k, ¬ (x = 81 ∧ 41 ≤ k ∧ k ≤ 54) → ¬ (109 ≤ x ∧ x ≤ 116) → gi (si (si (si H' 81 43 0) 81 50 (gi H' 81 48)) 81 52 (gi H' 81 49)) x k = gi G3 x k := fun x k y1 y2 => by
            rw [ends_g (by omega), x4.1 x k (by omega) (by omega), b2.1 x k (by omega)]
          have hallp : ∀ x k, gp (si (si (si H' 81 43 0) 81 50 (gi H' 81 48)) 81 52 (gi H' 81 49)) x k = gp G3 x k := fun x k => (x4.2 x k).trans (b2.2 x k)
          generalize si (si (si H' 81 43 0) 81 50 (gi H' 81 48)) 81 52 (gi H' 81 49) = F at *
          refine Inv_reads hI0 (fun x k y1 y2 y3 y4 y5 => by rw [hall x k y4 (by omega), hGc x k y1 y2 (by omega)]) (by rw [hall 15 1 (by omega) (by omega)]; exact h151) hv.1 ?_ ?_ ?_
          · rw [hv.2.1, hall 15 8 (by omega) (by omega), x5, x7]
          · rw [hv.2.2, hall 15 9 (by omega) (by omega), x6, x8]
          · refine ⟨fun s hs => by rw [hallp, hGp 49 s (by omega)]; exact k1 s hs, by rw [hallp, hGp 0 13 (by omega), hcd]; exact hc, fun s t hs ht e => k3 s t hs ht (by rw [hallp, hallp, hGp 49 s (by omega), hGp 49 t (by omega)] at e; exact e), fun s hs => by rw [hallp, hallp, hGp 49 s (by omega), hGp 0 13 (by omega), hcd]; exact k4 s hs, fun s hs => ?_⟩
            rw [hallp, hGp 49 s (by omega)]
            have hap := law_apart (k1 s hs) hc (k4 s hs)
            have hrs := law_rng (k1 s hs)
            exact LawRel_fr hs (fun j k hj => by rw [hall _ k (by omega) (by omega), hGc _ k (by omega) (by omega) (by omega)]) (fun x k ho => by
              have : 96 ≤ x ∧ x ≤ 108 := by unfold own at ho; omega
              rw [hall x k (by omega) (by omega), hGc x k (by omega) (by omega) (by omega)]) (k5 s hs)
    · rw [if_neg z]
      have hT4 : TxM (sp (sp G3 49 r c) 0 13 (gp G 49 r)) B L := hT3.fr rfl (fun _ => rfl)
      obtain ⟨H, b1, b2, hgo⟩ := go _ hT4
      rcases hgo with ⟨G', H', i', q', ls', x1, x2, x3, x4, x5, x6, x7, x8, x9⟩ | ⟨G', H', k, x, x1, x2, x3, x4, x5⟩
      · rw [hex] at x1
        have hG' := (Prod.mk.inj (Option.some.inj x1)).2
        have hr0 := (Prod.mk.inj (Option.some.inj x1)).1
        rw [← hG'] at x5
        have hv := ends_v (H := H') (u := gi H' 81 48) (w := -1) (wr_gi _ _ _) (by decide)
        have he1 := ends_1 H'
        have hEg : ∀ x k, ¬ (x = 81 ∧ (k = 43 ∨ k = 50 ∨ k = 52)) → gi (si (si (si H' 81 43 0) 81 50 (gi H' 81 48)) 81 52 (-1)) x k = gi H' x k := fun x k y => ends_g y
        have hEp : ∀ x k, gp (si (si (si H' 81 43 0) 81 50 (gi H' 81 48)) 81 52 (-1)) x k = gp H' x k := fun _ _ => rfl
        generalize si (si (si H' 81 43 0) 81 50 (gi H' 81 48)) 81 52 (-1) = E at *
        have hi' := (atC_hd x5.1).1
        obtain ⟨m1, m2, m3, m4, m5, m6⟩ := x6
        have hwE : ∀ j, wF E j = wF H' j := fun j => by unfold wF; rw [hEg 109 j (by omega), hEg 110 j (by omega), hEg 111 j (by omega), hEg 112 j (by omega)]
        obtain ⟨F, t1, t2, t3, t4, t5, t6, t7⟩ := told_M (r := r) (m := ls'.length) (len := (stepL ls').length) (H := E) hr4 x9 (by omega) (by rw [hEg 81 41 (by omega)]; exact m5) (by rw [hEg 81 42 (by omega)]; exact m3) (fun j hj => by rw [hwE, hEg 113 j (by omega)]; exact (m6 j hj).2)
        refine ⟨(r0, sp (sp G3 49 r c) 0 13 (gp G 49 r)), ((ls'.length : Int), F), rfl, ?_, ?_, ?_⟩
        · dsimp only
          rw [hop (sp (sp G3 49 r c) 0 13 (gp G 49 r)) h1816, b1, Option.bind_some, x2, f_Model_reads_L47, he1, Option.bind_some, if_neg (show ¬ ((1 : Int), E).1 = 0 from n10 E), hr]
          exact t1
        · exact hr0
        · have hall : ∀ x k, ¬ own r x k → ¬ (x = 81 ∧ 41 ≤ k ∧ k ≤ 54) → ¬ (109 ≤ x ∧ x ≤ 116) → gi F x k = gi G3 x k := fun x k y0 y1 y2 => by
            rw [t2.1 x k y0, hEg x k (by omega), x4.1 x k (by omega) (by omega), b2.1 x k (by omega)]
            rfl
          have hallp : ∀ x k, gp F x k = gp (sp (sp G3 49 r c) 0 13 (gp G 49 r)) x k := fun x k => by
            rw [t2.2, hEp, x4.2, b2.2]
          have hno : ∀ x k, ¬ (96 ≤ x ∧ x ≤ 108) → ¬ own r x k := fun x k y w => by unfold own at w; omega
          have hp49 : ∀ s, gp F 49 s = if s = r then c else gp G 49 s := fun s => by
            rw [hallp, gp_sp, if_neg (by omega), gp_sp]
            by_cases w : s = r
            · rw [if_pos ⟨rfl, w⟩, if_pos w]
            · rw [if_neg (by omega), if_neg w]
              exact hGp 49 s (by omega)
          have hp013 : gp F 0 13 = gp G 49 r := by rw [hallp, gp_sp, if_pos ⟨rfl, rfl⟩]
          have f43 : gi F 81 43 = 0 := by rw [t2.1 81 43 (hno _ _ (by omega))]; exact hv.1
          have f50 : gi F 81 50 = 0 := by rw [t2.1 81 50 (hno _ _ (by omega)), hv.2.1]; exact m2
          have f52 : gi F 81 52 = -1 := by rw [t2.1 81 52 (hno _ _ (by omega))]; exact hv.2.2
          have g8 : gi G3 15 8 = 0 := x5.2.1
          have g9 : gi G3 15 9 = -1 := by
            rw [hF3.1 15 9 (by omega) (by omega) (by omega) (by omega)]
            have g82 : gi G2 15 8 = 0 := p3.2.1
            rw [p2.1 15 9 (by omega) (by omega) (by omega) (by omega)]
            exact s7
          refine Inv_reads hI0 (fun x k y1 y2 y3 y4 y5 => by rw [hall x k (hno x k (by omega)) y4 (by omega), hGc x k y1 y2 (by omega)]) (by rw [hall 15 1 (hno _ _ (by omega)) (by omega) (by omega)]; exact h151) f43 ?_ ?_ ?_
          · rw [f50, hall 15 8 (hno _ _ (by omega)) (by omega) (by omega), g8]
          · rw [f52, hall 15 9 (hno _ _ (by omega)) (by omega) (by omega), g9]
          · refine ⟨fun s hs => ?_, by rw [hp013]; exact k1 r hr4, fun s t hs ht e => ?_, fun s hs => ?_, fun s hs => ?_⟩
            · rw [hp49]
              by_cases w : s = r
              · rw [if_pos w]; exact hc
              · rw [if_neg w]; exact k1 s hs
            · rw [hp49, hp49] at e
              by_cases w1 : s = r
              · by_cases w2 : t = r
                · omega
                · rw [if_pos w1, if_neg w2] at e
                  exact absurd e.symm (k4 t ht)
              · by_cases w2 : t = r
                · rw [if_neg w1, if_pos w2] at e
                  exact absurd e (k4 s hs)
                · rw [if_neg w1, if_neg w2] at e
                  exact k3 s t hs ht e
            · rw [hp49, hp013]
              by_cases w : s = r
              · rw [if_pos w]; exact fun e => k4 r hr4 e.symm
              · rw [if_neg w]; exact fun e => w (k3 s r hs hr4 e)
            · rw [hp49]
              by_cases w : s = r
              · rw [if_pos w, w]
                have hcF : ∀ x k, c ≤ x → x ≤ c + 5 → gi F x k = gi G3 x k := fun x k y1 y2 => hall x k (hno _ _ (by omega)) (by omega) (by omega)
                obtain ⟨d1, d2, d3, d4, d5, d6, d7⟩ := x5
                have hvE : vUp (gF E) ls'.length = vUp (gF H') ls'.length := vUp_fr _ (fun j _ => by unfold gF; rw [hwE, hEg 113 j (by omega)])
                rw [hvE] at t3
                exact law_alike (i := 0) (H := H') rfl x9 x7 (by omega) (by omega) ⟨m1, m2, m3, m4, m5, m6⟩ t3 (CV_fr (fun x k y => hcF x k (by omega) (by omega)) d7) (by rw [hcF c 9 (by omega) (by omega)]; exact d4) (Ar_fr (fun j _ => hcF _ j (by omega) (by omega)) d5) t4 (fun j hj => by
                  have := t5 j hj
                  rw [this.1, this.2.1, this.2.2, hEg 113 j (by omega), hEg 114 j (by omega), hEg 115 j (by omega)]
                  exact ⟨rfl, rfl, rfl⟩) t6 (fun t ht => by rw [t7 t ht, hEg 116 t (by omega)])
              · rw [if_neg w]
                have hap := law_apart (k1 s hs) hc (k4 s hs)
                have hrs := law_rng (k1 s hs)
                exact LawRel_fr hs (fun j k hj => by rw [hall _ k (hno _ _ (by omega)) (by omega) (by omega), hGc _ k (by omega) (by omega) (by omega)]) (fun x k ho => by
                  have h96 : 96 ≤ x ∧ x ≤ 108 := by unfold own at ho; omega
                  rw [hall x k (own_apart (fun e => w e.symm) ho) (by omega) (by omega), hGc x k (by omega) (by omega) (by omega)]) (k5 s hs)
      · rw [hex] at x1
        have := (Prod.mk.inj (Option.some.inj x1)).1
        omega
  · exact reads_out hI ha
