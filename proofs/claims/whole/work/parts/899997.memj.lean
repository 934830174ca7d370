/-! one memory, class and reference side by side -/
theorem nq_gt {B : Nat → Int} {L q : Nat} (hq : q < L) : q < nq B L q := by
  have hb := tE_b (B := B) hq
  have := (rN_b isW B L L (tE B L q) (by omega) hb.2).1
  unfold nq
  omega
def Rmem (G : GS) (s N E O b c : Int) : Prop := (0 ≤ E ∧ E ≤ 15) ∧ gi G 24 E.toNat ≠ -1 ∧ (0 ≤ N ∧ N ≤ 99999) ∧ (0 ≤ O ∧ O ≤ 99999) ∧ ((s = 21 ∧ b = -30000 ∧ c = -1) ∨ (s = 22 ∧ b = 1 ∧ c = 30000) ∨ (s = 23 ∧ b = -N ∧ c = -N) ∨ (s = 26 ∧ b = N ∧ c = N) ∨ (s = 24 ∧ b = -N * 360 - O ∧ c = -N * 360 + O))
def MemOk (B : Nat → Int) (L q p n m : Nat) (G H : GS) (rc : Option GS) (rm : Option (Int × GS)) : Prop := ∃ G' H' q' E b c s N O, rc = some G' ∧ rm = some (1, H') ∧ CO G G' B L (24 * p + n) q' E b c ∧ MO H H' B L m q' s N E O ∧ Rmem G s N E O b c ∧ q < q'
def MemBad (p n m : Nat) (G H : GS) (rc : Option GS) (rm : Option (Int × GS)) : Prop := ∃ G' H' k x, rc = some G' ∧ rm = some (0, H') ∧ CB G G' (24 * p + n) k x ∧ MB H H' m k x ∧ (1 ≤ k ∧ k ≤ 3)
/-- an event and the stop, both sides -/
theorem tail_S {B : Nat → Int} {L i q q0 p n m : Nat} {G H : GS} {b c : Int} (hp : p < 32) (hn : n < 24) (hL : L ≤ 800) (hb : wr b = b) (hc : wr c = c) (hA : atC G B L i (nq B L q)) (h8 : gi G 15 8 = 0) (hM : atM H 0 B L q) (hq : q < L) (h41 : gi H 81 41 = m) (hm : m < 30) (hs : gi H 109 m ≠ 24) (hev : ∀ k, gi H 130 k = gi G 24 k) (hr : Rmem G (gi H 109 m) (gi H 110 m) 0 (gi H 112 m) b c ∨ ¬ gi G 24 0 ≠ -1 ∨ True) (hrel : ∀ E : Int, 0 ≤ E → E ≤ 15 → gi G 24 E.toNat ≠ -1 → Rmem G (gi H 109 m) (gi H 110 m) E (gi H 112 m) b c) (hq0 : q0 ≤ q) : MemOk B L q0 p n m G H ((f_MemoryReader_takeEvent G).bind fun r => (f_Remembered_put r.2 p n r.1 b c).bind fun G2 => f_Text_take G2 59) (f_Model_aMemory_L214 H m) ∨ MemBad p n m G H ((f_MemoryReader_takeEvent G).bind fun r => (f_Remembered_put r.2 p n r.1 b c).bind fun G2 => f_Text_take G2 59) (f_Model_aMemory_L214 H m) := by
  obtain ⟨G', e1, a1, a2, a3, a4⟩ := tail_C (n := n) hp hn hL hb hc hA h8
  obtain ⟨r, H', e2, b1, b2, b3, b4⟩ := l214_M hM hq hL h41 hm hs
  have vb := vC_b B L (nq B L q)
  have hevt : evt H 130 B L (nq B L q) ↔ evt G 24 B L (nq B L q) := by unfold evt; rw [hev]
  have hg1 := nq_gt (B := B) hq
  rw [e1, e2]
  by_cases c1 : kC B L (nq B L q) = 2
  · by_cases c2 : evt G 24 B L (nq B L q)
    · have l1 : nq B L q < L := kC_lt (B := B) (by omega)
      have hg2 := nq_gt (B := B) l1
      by_cases c3 : kC B L (nq B L (nq B L q)) = 59
      · left
        have l2 : nq B L (nq B L q) < L := kC_lt (B := B) (by omega)
        have hg3 := nq_gt (B := B) l2
        obtain ⟨h1, h2⟩ := b1 c1 (hevt.2 c2) c3
        rw [h1]
        exact ⟨G', H', _, _, b, c, _, _, _, rfl, rfl, a1 c1 c2 c3, h2, hrel _ vb.1 (by have := c2.1; omega) c2.2, by omega⟩
      · right
        obtain ⟨h1, h2⟩ := b2 c1 (hevt.2 c2) c3
        rw [h1]
        exact ⟨G', H', 1, _, rfl, rfl, a2 c1 c2 c3, h2, by decide⟩
    · right
      obtain ⟨h1, h2⟩ := b3 c1 (fun z => c2 (hevt.1 z))
      rw [h1]
      exact ⟨G', H', 2, _, rfl, rfl, a3 c1 c2, h2, by decide⟩
  · right
    obtain ⟨h1, h2⟩ := b4 c1
    rw [h1]
    exact ⟨G', H', 1, _, rfl, rfl, a4 c1, h2, by decide⟩
theorem MemOk.of {B : Nat → Int} {L q p n m : Nat} {G G0 H H0 : GS} {rc : Option GS} {rm : Option (Int × GS)} (hF : FCm G G0 (24 * p + n)) (hM : FM H H0 m) (h48 : gi H0 81 48 = gi H 81 48) (h24 : ∀ k, gi G0 24 k = gi G 24 k) (h : MemOk B L q p n m G0 H0 rc rm) : MemOk B L q p n m G H rc rm := by
  obtain ⟨G', H', q', E, b, c, s, N, O, a1, a2, a3, a4, a5, a6⟩ := h
  refine ⟨G', H', q', E, b, c, s, N, O, a1, a2, a3.of hF, a4.of hM h48, ?_, a6⟩
  unfold Rmem at *
  rw [← h24]
  exact a5
theorem MemBad.of {p n m : Nat} {G G0 H H0 : GS} {rc : Option GS} {rm : Option (Int × GS)} (hF : FCm G G0 (24 * p + n)) (hM : FM H H0 m) (h : MemBad p n m G0 H0 rc rm) : MemBad p n m G H rc rm := by
  obtain ⟨G', H', k, x, a1, a2, a3, a4, a5⟩ := h
  exact ⟨G', H', k, x, a1, a2, a3.of hF, a4.of hM, a5⟩
theorem mem_of {B : Nat → Int} {L q p n m : Nat} {G G0 H H0 : GS} {rc : Option GS} {rm : Option (Int × GS)} (hF : FCm G G0 (24 * p + n)) (hM : FM H H0 m) (h48 : gi H0 81 48 = gi H 81 48) (h24 : ∀ k, gi G0 24 k = gi G 24 k) (h : MemOk B L q p n m G0 H0 rc rm ∨ MemBad p n m G0 H0 rc rm) : MemOk B L q p n m G H rc rm ∨ MemBad p n m G H rc rm := by
  rcases h with h | h
  · exact Or.inl (h.of hF hM h48 h24)
  · exact Or.inr (h.of hF hM)
theorem mbad {p n m x : Nat} {G G' H H0 : GS} {rc : Option GS} {rm : Option (Int × GS)} {k : Int} (hk : 1 ≤ k ∧ k ≤ 3) (hx : x ≤ 800) (e1 : rc = some G') (e2 : rm = some (0, bad H0 k x)) (hC : CB G G' (24 * p + n) k x) (hM : FM H H0 m) : MemBad p n m G H rc rm := ⟨G', bad H0 k x, k, x, e1, e2, hC, (MB_bad (wr_of (by omega) (by omega)) hx).of hM, hk⟩
theorem e122 (F : GS) (p n : Nat) (s : Int) : ((f_MemoryReader_counted_L122 F p n s).bind fun q3 => f_Text_take q3 59) = (f_MemoryReader_takeEvent F).bind fun r => (f_Remembered_put r.2 p n r.1 s s).bind fun G2 => f_Text_take G2 59 := by
  rw [f_MemoryReader_counted_L122, Option.bind_assoc]
  congr 1
  funext r
  rw [bS]
/-- a memory that begins with a number; the reference stands behind the number -/
theorem cnt_S {B : Nat → Int} {L i q p n m : Nat} {G H : GS} (hp : p < 32) (hn : n < 24) (hL : L ≤ 800) (hB : ∀ k, -128 ≤ B k ∧ B k ≤ 127) (hA : atC G B L i q) (h8 : gi G 15 8 = 0) (hK : kC B L q = 2) (hM : atM H 0 B L (nq B L q)) (h41 : gi H 81 41 = m) (hm : m < 30) (h110 : gi H 110 m = vC B L q) (h112 : gi H 112 m = 0) (hev : ∀ k, gi H 130 k = gi G 24 k) : MemOk B L q p n m G H ((f_MemoryReader_counted G p n).bind fun q3 => f_Text_take q3 59) (if gi H 81 45 = 23 then f_Model_aMemory_L124 H m else if gi H 81 45 = 24 then f_Model_aMemory_L124 H m else (f_Model_bad H 1).bind fun q2 => some (q2.1, q2.2)) ∨ MemBad p n m G H ((f_MemoryReader_counted G p n).bind fun q3 => f_Text_take q3 59) (if gi H 81 45 = 23 then f_Model_aMemory_L124 H m else if gi H 81 45 = 24 then f_Model_aMemory_L124 H m else (f_Model_bad H 1).bind fun q2 => some (q2.1, q2.2)) := by
  have lq : q < L := kC_lt (B := B) (by omega)
  have l1 := nq_le (B := B) lq
  have g1 := nq_gt (B := B) lq
  have vb := vC_b B L q
  have hA1 := stp_at hA lq
  have h81 : gi (stp G i) 15 8 = 0 := by rw [stp_gi (by omega)]; exact h8
  have hF1 : FCm G (stp G i) (24 * p + n) := FCm_stp
  have h241 : ∀ k, gi (stp G i) 24 k = gi G 24 k := fun k => stp_gi (by omega)
  have hq1K := mM B L (nq B L q)
  have m45 := hM.2.1
  rw [f_MemoryReader_counted, num_at hA h8, Option.bind_some, if_pos hK, if_pos vb.2]
  dsimp only
  rw [takeIf_at hA1 h81 (by decide), Option.bind_some]
  generalize hN : vC B L q = N at *
  generalize hq1 : nq B L q = q1 at *
  generalize stp G i = G1 at *
  obtain ⟨k0, k2, k59, k21, k22, k23, k24, k25, k26⟩ := hq1K
  by_cases c133 : kC B L q1 = 133
  · -- within days of an event
    have lq1 : q1 < L := kC_lt (B := B) (by omega)
    have l2 := nq_le (B := B) lq1
    have g2 := nq_gt (B := B) lq1
    have hA2 := stp_at hA1 lq1
    have h82 : gi (stp G1 (i + 1)) 15 8 = 0 := by rw [stp_gi (by omega)]; exact h81
    have hF2 : FCm G (stp G1 (i + 1)) (24 * p + n) := hF1.trans FCm_stp
    have h242 : ∀ k, gi (stp G1 (i + 1)) 24 k = gi G 24 k := fun k => by rw [stp_gi (by omega)]; exact h241 k
    rw [if_pos c133, if_neg (n10 (stp G1 (i + 1)))]
    dsimp only
    generalize stp G1 (i + 1) = G2 at *
    obtain ⟨H2, d1, d2, d3⟩ := next_at hM lq1
    have kq2 := mM B L (nq B L q1)
    obtain ⟨j0, j2, j59, j21, j22, j23, j24, j25, j26⟩ := kq2
    have hFM2 : FM H H2 m := FM_Mx d2
    have e45 : gi H2 81 45 = mC 0 B L (nq B L q1) := d3.2.1
    have er : (if gi H 81 45 = 23 then f_Model_aMemory_L124 H m else if gi H 81 45 = 24 then f_Model_aMemory_L124 H m else (f_Model_bad H 1).bind fun q2 => some (q2.1, q2.2)) = if gi H2 81 45 = 25 then f_Model_aMemory_L214 (si H2 109 m 24) m else f_Model_aMemory_L177 H2 := by
      rw [m45, if_neg (fun z => by have := k23.1 z; omega), if_pos (k24.2 c133), f_Model_aMemory_L124, m45, if_pos (k24.2 c133), f_Model_aMemory_L138, d1, Option.bind_some, if_neg (by decide)]
      by_cases z : gi H2 81 45 = 25
      · rw [if_pos z, if_pos z, f_Model_aMemory_L183, if_neg (by decide), f_Model_aMemory_L213, gd, if_pos (by omega)]
        rfl
      · rw [if_neg z, if_neg z]
    obtain ⟨G', x1, x2, x3⟩ := off_C (n := n) (N := N) hp hn hL (by omega) hA2 h82
    have ec : (((f_Text_take G2 134).bind fun q5 => (f_MemoryReader_takeEvent q5).bind fun q6 => (f_Text_take q6.2 135).bind fun q7 => (f_Text_takeNumber q7 99999).bind fun q8 => (f_Remembered_put q8.2 p n q6.1 (wr (((-N) * 360) - q8.1)) (wr (((-N) * 360) + q8.1))).bind fun q9 => some q9).bind fun q3 => f_Text_take q3 59) = some G' := by
      rw [← x1]
      simp only [Option.bind_assoc, Option.bind_some, offE]
    rw [er, ec, e45]
    generalize nq B L q1 = q2 at *
    by_cases c134 : kC B L q2 = 134
    · rw [if_pos (j25.2 c134)]
      have lq2 : q2 < L := kC_lt (B := B) (by omega)
      have g3 := nq_gt (B := B) lq2
      have hM3 : atM (si H2 109 m 24) 0 B L q2 := atM_sj (by decide) d3
      have v41 : gi (si H2 109 m 24) 81 41 = m := by rw [gi_ne (by decide), d2.1 81 41 (by omega)]; exact h41
      have v109 : gi (si H2 109 m 24) 109 m = 24 := by rw [gi_sm, if_pos rfl]; exact wr_of (by omega) (by omega)
      have v110 : gi (si H2 109 m 24) 110 m = N := by rw [gi_ne (by decide), d2.1 110 m (by omega)]; exact h110
      have hFM3 : FM H (si H2 109 m 24) m := hFM2.trans (FM_si (by decide))
      have v48 : gi (si H2 109 m 24) 81 48 = gi H 81 48 := by rw [gi_ne (by decide), d2.1 81 48 (by omega)]
      have v130 : ∀ k, gi (si H2 109 m 24) 130 k = gi G2 24 k := fun k => by rw [gi_ne (by decide), d2.1 130 k (by omega), hev, h242]
      generalize si H2 109 m 24 = H3 at *
      obtain ⟨r, H', y1, y2, y3, y4⟩ := l214_O hM3 lq2 hL v41 hm v109
      rw [y1]
      have hevt : evt H3 130 B L (nq B L q2) ↔ evt G2 24 B L (nq B L q2) := by unfold evt; rw [v130]
      have vb3 := vC_b B L (nq B L q2)
      obtain ⟨x4, x5, x6⟩ := x3 c134
      by_cases c3 : kC B L (nq B L q2) = 2
      · by_cases c4 : evt G2 24 B L (nq B L q2)
        · obtain ⟨x7, x8⟩ := x6 c3 c4
          obtain ⟨y5, y6⟩ := y4 c3 (hevt.2 c4)
          have lq3 : nq B L q2 < L := kC_lt (B := B) (by omega)
          have g4 := nq_gt (B := B) lq3
          by_cases c5 : kC B L (nq B L (nq B L q2)) = 135
          · obtain ⟨x9, x10⟩ := x8 c5
            obtain ⟨y7, y8⟩ := y6 c5
            have lq4 : nq B L (nq B L q2) < L := kC_lt (B := B) (by omega)
            have g5 := nq_gt (B := B) lq4
            by_cases c6 : kC B L (nq B L (nq B L (nq B L q2))) = 2
            · obtain ⟨x11, x12⟩ := x10 c6
              obtain ⟨y9, y10⟩ := y8 c6
              have lq5 : nq B L (nq B L (nq B L q2)) < L := kC_lt (B := B) (by omega)
              have g6 := nq_gt (B := B) lq5
              have vb5 := vC_b B L (nq B L (nq B L (nq B L q2)))
              by_cases c7 : kC B L (nq B L (nq B L (nq B L (nq B L q2)))) = 59
              · left
                have lq6 : nq B L (nq B L (nq B L (nq B L q2))) < L := kC_lt (B := B) (by omega)
                have g7 := nq_gt (B := B) lq6
                obtain ⟨z1, z2⟩ := y10 c7
                rw [z1]
                rw [v110] at z2
                exact ⟨G', H', _, _, _, _, _, _, _, rfl, rfl, (x12 c7).of hF2, z2.of hFM3 v48, ⟨⟨vb3.1, by have := c4.1; omega⟩, by rw [← h242]; exact c4.2, by omega, vb5, Or.inr (Or.inr (Or.inr (Or.inr ⟨rfl, rfl, rfl⟩)))⟩, by omega⟩
              · right
                obtain ⟨z1, z2⟩ := y9 c7
                rw [z1]
                exact ⟨G', H', _, _, rfl, rfl, (x11 c7).of hF2, z2.of hFM3, by decide⟩
            · right
              obtain ⟨z1, z2⟩ := y7 c6
              rw [z1]
              exact ⟨G', H', _, _, rfl, rfl, (x9 c6).of hF2, z2.of hFM3, by decide⟩
          · right
            obtain ⟨z1, z2⟩ := y5 c5
            rw [z1]
            exact ⟨G', H', _, _, rfl, rfl, (x7 c5).of hF2, z2.of hFM3, by decide⟩
        · right
          obtain ⟨z1, z2⟩ := y3 c3 (fun w => c4 (hevt.1 w))
          rw [z1]
          exact ⟨G', H', _, _, rfl, rfl, (x5 c3 c4).of hF2, z2.of hFM3, by decide⟩
      · right
        obtain ⟨z1, z2⟩ := y2 c3
        rw [z1]
        exact ⟨G', H', _, _, rfl, rfl, (x4 c3).of hF2, z2.of hFM3, by decide⟩
    · right
      rw [if_neg (fun z => c134 (j25.1 z)), f_Model_aMemory_L177, bad_at d3]
      exact mbad (by decide) (by omega) rfl rfl ((x2 c134).of hF2) hFM2
  · rw [if_neg c133, if_pos rfl]
    dsimp only
    rw [take_at hA1 h81 (by decide), Option.bind_some]
    by_cases c132 : kC B L q1 = 132
    · have lq1 : q1 < L := kC_lt (B := B) (by omega)
      have l2 := nq_le (B := B) lq1
      have g2 := nq_gt (B := B) lq1
      have hA2 := stp_at hA1 lq1
      have h82 : gi (stp G1 (i + 1)) 15 8 = 0 := by rw [stp_gi (by omega)]; exact h81
      have hF2 : FCm G (stp G1 (i + 1)) (24 * p + n) := hF1.trans FCm_stp
      have h242 : ∀ k, gi (stp G1 (i + 1)) 24 k = gi G 24 k := fun k => by rw [stp_gi (by omega)]; exact h241 k
      rw [if_pos c132]
      generalize stp G1 (i + 1) = G2 at *
      obtain ⟨H2, d1, d2, d3⟩ := next_at hM lq1
      have kq2 := mM B L (nq B L q1)
      obtain ⟨j0, j2, j59, j21, j22, j23, j24, j25, j26⟩ := kq2
      have hFM2 : FM H H2 m := FM_Mx d2
      have e45 : gi H2 81 45 = mC 0 B L (nq B L q1) := d3.2.1
      have er : (if gi H 81 45 = 23 then f_Model_aMemory_L124 H m else if gi H 81 45 = 24 then f_Model_aMemory_L124 H m else (f_Model_bad H 1).bind fun q2 => some (q2.1, q2.2)) = if gi H2 81 45 = 21 then f_Model_aMemory_L214 (si H2 109 m 23) m else if gi H2 81 45 = 22 then f_Model_aMemory_L214 (si H2 109 m 26) m else f_Model_aMemory_L177 H2 := by
        have g : ∀ x : Option (Int × GS), gd (0 ≤ (m : Int) ∧ (m : Int) < 30) x = x := fun x => by rw [gd, if_pos (by omega)]
        rw [m45, if_pos (k23.2 c132), f_Model_aMemory_L124, m45, if_neg (fun z => by have := k24.1 z; omega), f_Model_aMemory_L138, d1, Option.bind_some, if_pos rfl]
        by_cases z : gi H2 81 45 = 21
        · rw [if_pos z, if_pos z, f_Model_aMemory_L183, if_pos rfl, if_pos z, f_Model_aMemory_L213, g]
          rfl
        · rw [if_neg z, if_neg z]
          by_cases z2 : gi H2 81 45 = 22
          · rw [if_pos z2, if_pos z2, f_Model_aMemory_L183, if_pos rfl, if_neg z, f_Model_aMemory_L213, g]
            rfl
          · rw [if_neg z2, if_neg z2]
      rw [er, e45, oneOf_at (a := 130) (n := 2) hB hA2 h82 (by decide) (by decide), Option.bind_some]
      generalize hq2 : nq B L q1 = q2 at *
      by_cases c3 : 130 ≤ kC B L q2 ∧ kC B L q2 < 130 + 2
      · rw [if_pos c3]
        dsimp only
        have lq2 : q2 < L := kC_lt (B := B) (by omega)
        have hA3 := stp_at hA2 lq2
        have h83 : gi (stp G2 (i + 1 + 1)) 15 8 = 0 := by rw [stp_gi (by omega)]; exact h82
        have hF3 : FCm G (stp G2 (i + 1 + 1)) (24 * p + n) := hF2.trans FCm_stp
        have h243 : ∀ k, gi (stp G2 (i + 1 + 1)) 24 k = gi G 24 k := fun k => by rw [stp_gi (by omega)]; exact h242 k
        generalize stp G2 (i + 1 + 1) = G3 at *
        -- sort 23 or 26
        have fin : ∀ so b : Int, (so = 23 ∧ b = -N) ∨ (so = 26 ∧ b = N) → MemOk B L q p n m G H ((f_MemoryReader_counted_L122 G3 p n b).bind fun q3 => f_Text_take q3 59) (f_Model_aMemory_L214 (si H2 109 m so) m) ∨ MemBad p n m G H ((f_MemoryReader_counted_L122 G3 p n b).bind fun q3 => f_Text_take q3 59) (f_Model_aMemory_L214 (si H2 109 m so) m) := by
          intro so b hso
          have hM3 : atM (si H2 109 m so) 0 B L q2 := atM_sj (by decide) d3
          have v41 : gi (si H2 109 m so) 81 41 = m := by rw [gi_ne (by decide), d2.1 81 41 (by omega)]; exact h41
          have v109 : gi (si H2 109 m so) 109 m = so := by rw [gi_sm, if_pos rfl]; exact wr_of (by omega) (by omega)
          have v110 : gi (si H2 109 m so) 110 m = N := by rw [gi_ne (by decide), d2.1 110 m (by omega)]; exact h110
          have v112 : gi (si H2 109 m so) 112 m = 0 := by rw [gi_ne (by decide), d2.1 112 m (by omega)]; exact h112
          have hFM3 : FM H (si H2 109 m so) m := hFM2.trans (FM_si (by decide))
          have v48 : gi (si H2 109 m so) 81 48 = gi H 81 48 := by rw [gi_ne (by decide), d2.1 81 48 (by omega)]
          have v130 : ∀ k, gi (si H2 109 m so) 130 k = gi G3 24 k := fun k => by rw [gi_ne (by decide), d2.1 130 k (by omega), hev, h243]
          generalize si H2 109 m so = H3 at *
          rw [e122]
          refine mem_of hF3 hFM3 v48 h243 (tail_S (q := q2) (q0 := q) hp hn hL (wr_of (by omega) (by omega)) (wr_of (by omega) (by omega)) hA3 h83 hM3 lq2 v41 hm (by rw [v109]; omega) v130 (Or.inr (Or.inr trivial)) (fun E hE1 hE2 hE3 => ?_) (by omega))
          rw [v109, v110, v112]
          refine ⟨⟨hE1, hE2⟩, hE3, by omega, by omega, ?_⟩
          rcases hso with ⟨y1, y2⟩ | ⟨y1, y2⟩
          · exact Or.inr (Or.inr (Or.inl ⟨y1, y2, y2⟩))
          · exact Or.inr (Or.inr (Or.inr (Or.inl ⟨y1, y2, y2⟩)))
        have hwN : wr (-N) = -N := wr_of (by omega) (by omega)
        by_cases c4 : kC B L q2 = 130
        · rw [if_pos (j21.2 c4), if_pos (show kC B L q2 - 130 = 0 by omega), hwN]
          exact fin 23 (-N) (Or.inl ⟨rfl, rfl⟩)
        · rw [if_neg (fun z => c4 (j21.1 z)), if_pos (j22.2 (by omega)), if_neg (show ¬ kC B L q2 - 130 = 0 by omega)]
          exact fin 26 N (Or.inr ⟨rfl, rfl⟩)
      · right
        rw [if_neg c3, if_neg (show ¬ mC 0 B L q2 = 21 from fun z => c3 (by have := j21.1 z; omega)), if_neg (show ¬ mC 0 B L q2 = 22 from fun z => c3 (by have := j22.1 z; omega)), f_Model_aMemory_L177, bad_at d3]
        dsimp only
        have h8f : gi (flt G2 1 q2) 15 8 ≠ 0 := flt_8n (by decide)
        rw [if_pos rfl, l122_no hp hn (flt_at hA2) h8f, Option.bind_some]
        exact mbad (by decide) (by omega) (take_no (by rw [pt_gi (by omega)]; exact h8f)) rfl ((CB_pt rfl (by omega)).of hF2) hFM2
    · right
      have h8f : gi (flt G1 1 q1) 15 8 ≠ 0 := flt_8n (by decide)
      obtain ⟨d, d1, d2⟩ := oneOf_no (a := 130) (n := 2) hB (flt_at (v := 1) (x := q1) hA1) h8f (by decide) (by decide)
      rw [if_neg c132, d2, Option.bind_some, m45, if_neg (fun z => c132 (k23.1 z)), if_neg (fun z => c133 (k24.1 z)), bad_at hM]
      dsimp only
      have el : ∀ s : Int, ((f_MemoryReader_counted_L122 (flt G1 1 q1) p n s).bind fun q3 => f_Text_take q3 59) = some (pt (flt G1 1 q1) (24 * p + n) 0 s s) := fun s => by
        rw [l122_no hp hn (flt_at hA1) h8f, Option.bind_some, take_no (by rw [pt_gi (by omega)]; exact h8f)]
      split
      · exact mbad (by decide) (by omega) (el _) rfl ((CB_pt rfl (by omega)).of hF1) ⟨fun _ _ _ _ => rfl, fun _ _ => rfl⟩
      · exact mbad (by decide) (by omega) (el _) rfl ((CB_pt rfl (by omega)).of hF1) ⟨fun _ _ _ _ => rfl, fun _ _ => rfl⟩
