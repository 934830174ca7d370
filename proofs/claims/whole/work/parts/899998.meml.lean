/-! any memory; the loop over memories -/
def MBx (n0 p m : Nat) (G H : GS) (rc : Option GS) (rm : Option (Int × GS)) : Prop := ∃ x, ((24 * p + n0 ≤ x ∧ x < 24 * p + 24) ∨ x = 768) ∧ ∃ G' H' k y, rc = some G' ∧ rm = some (0, H') ∧ CB G G' x k y ∧ MB H H' m k y ∧ (1 ≤ k ∧ k ≤ 3)
theorem mem_S {B : Nat → Int} {L i q p n0 m : Nat} {G H : GS} (hp : p < 32) (hL : L ≤ 800) (hB : ∀ k, -128 ≤ B k ∧ B k ≤ 127) (hA : atC G B L i q) (h8 : gi G 15 8 = 0) (hM : atM H 0 B L q) (h41 : gi H 81 41 = m) (hn : n0 + m ≤ 24) (hev : ∀ k, gi H 130 k = gi G 24 k) : (MemOk B L q p (n0 + m) m G H (f_MemoryReader_memory G p ((n0 + m : Nat) : Int)) (f_Model_aMemory H n0) ∧ n0 + m < 24) ∨ MBx n0 p m G H (f_MemoryReader_memory G p ((n0 + m : Nat) : Int)) (f_Model_aMemory H n0) := by
  have hq := hA.2.2.1
  obtain ⟨k0, k2, k59, k21, k22, k23, k24, k25, k26⟩ := mM B L q
  have m45 := hM.2.1
  have vb := vC_b B L q
  have ecl : f_MemoryReader_memory G p ((n0 + m : Nat) : Int) = if kC B L q = 2 ∨ kC B L q = 130 ∨ kC B L q = 131 then f_MemoryReader_memory_L38 G p ((n0 + m : Nat) : Int) (kC B L q) else (f_Text_fail G 1).bind fun q2 => some q2 := by
    rw [f_MemoryReader_memory, kind_at hA, Option.bind_some]
    by_cases z1 : kC B L q = 2
    · rw [if_pos z1, if_pos (Or.inl z1)]
    · rw [if_neg z1]
      by_cases z2 : kC B L q = 130
      · rw [if_pos z2, if_pos (Or.inr (Or.inl z2))]
      · rw [if_neg z2]
        by_cases z3 : kC B L q = 131
        · rw [if_pos z3, if_pos (Or.inr (Or.inr z3))]
        · rw [if_neg z3, if_neg (by omega)]
  have erf : f_Model_aMemory H n0 = if kC B L q = 2 ∨ kC B L q = 130 ∨ kC B L q = 131 then f_Model_aMemory_L32 H n0 else (f_Model_bad H 1).bind fun q2 => some (q2.1, q2.2) := by
    rw [f_Model_aMemory, m45]
    by_cases z2 : kC B L q = 130
    · rw [if_pos (k21.2 z2), if_pos (Or.inr (Or.inl z2))]
    · rw [if_neg (fun w => z2 (k21.1 w))]
      by_cases z3 : kC B L q = 131
      · rw [if_pos (k22.2 z3), if_pos (Or.inr (Or.inr z3))]
      · rw [if_neg (fun w => z3 (k22.1 w))]
        by_cases z1 : kC B L q = 2
        · rw [if_pos (k2.2 z1), if_pos (Or.inl z1)]
        · rw [if_neg (fun w => z1 (k2.1 w)), if_neg (by omega)]
  rw [ecl, erf]
  by_cases c1 : kC B L q = 2 ∨ kC B L q = 130 ∨ kC B L q = 131
  · rw [if_pos c1, if_pos c1]
    have lq : q < L := kC_lt (B := B) (by omega)
    have hw : wr ((n0 : Int) + (m : Int)) = ((n0 + m : Nat) : Int) := by rw [wr_of (by omega) (by omega)]; omega
    have gm : (0 : Int) ≤ (m : Int) ∧ (m : Int) < 30 := by omega
    by_cases c2 : n0 + m < 24
    · have hFr : FCm G G (24 * p + (n0 + m)) := ⟨fun _ _ _ _ => rfl, fun _ _ => rfl⟩
      have v109 : gi (si (si (si H 109 m (mC 0 B L q)) 110 m 0) 112 m 0) 109 m = wr (mC 0 B L q) := by rw [gi_ne (by decide), gi_ne (by decide), gi_sm, if_pos rfl]
      have v110 : gi (si (si (si H 109 m (mC 0 B L q)) 110 m 0) 112 m 0) 110 m = 0 := by rw [gi_ne (by decide), gi_sm, if_pos rfl]; exact wr_zero
      have v112 : gi (si (si (si H 109 m (mC 0 B L q)) 110 m 0) 112 m 0) 112 m = 0 := by rw [gi_sm, if_pos rfl]; exact wr_zero
      have hFM0 : FM H (si (si (si H 109 m (mC 0 B L q)) 110 m 0) 112 m 0) m := (FM_si (by decide)).trans ((FM_si (by decide)).trans (FM_si (by decide)))
      have hM0 : atM (si (si (si H 109 m (mC 0 B L q)) 110 m 0) 112 m 0) 0 B L q := atM_sj (by decide) (atM_sj (by decide) (atM_sj (by decide) hM))
      have hg0 : ∀ x k, ¬ (109 ≤ x ∧ x ≤ 112) → gi (si (si (si H 109 m (mC 0 B L q)) 110 m 0) 112 m 0) x k = gi H x k := fun x k z => by rw [gi_ne (by omega), gi_ne (by omega), gi_ne (by omega)]
      have e32 : f_Model_aMemory_L32 H n0 = if gi (si (si (si H 109 m (mC 0 B L q)) 110 m 0) 112 m 0) 81 45 = 2 then (f_Model_next0 (si (si (si (si H 109 m (mC 0 B L q)) 110 m 0) 112 m 0) 110 m (gi (si (si (si H 109 m (mC 0 B L q)) 110 m 0) 112 m 0) 81 47))).bind fun q1 => if gi q1 81 45 = 23 then f_Model_aMemory_L124 q1 m else if gi q1 81 45 = 24 then f_Model_aMemory_L124 q1 m else (f_Model_bad q1 1).bind fun q2 => some (q2.1, q2.2) else f_Model_aMemory_L214 (si (si (si H 109 m (mC 0 B L q)) 110 m 0) 112 m 0) m := by
        rw [f_Model_aMemory_L32, h41, hw, if_neg (by omega), gd, if_pos gm, m45]
        dsimp only [wG, Int.toNat_natCast]
        rw [gd, if_pos gm, gd, if_pos gm]
        split
        · rw [gd, if_pos gm]
        · rfl
      have t45 : gi (si (si (si H 109 m (mC 0 B L q)) 110 m 0) 112 m 0) 81 45 = mC 0 B L q := hM0.2.1
      rw [f_MemoryReader_memory_L38, if_pos (by omega), e32, t45]
      generalize hH0 : si (si (si H 109 m (mC 0 B L q)) 110 m 0) 112 m 0 = H0 at *
      by_cases c3 : kC B L q = 2
      · -- it begins with a number
        have hv47 : gi H0 81 47 = vC B L q := val_M hM0 (k2.2 c3)
        rw [if_pos c3, if_pos (k2.2 c3), hv47]
        have hM1 : atM (si H0 110 m (vC B L q)) 0 B L q := atM_sj (by decide) hM0
        obtain ⟨H1, d1, d2, d3⟩ := next_at hM1 lq
        rw [d1, Option.bind_some]
        have hFM1 : FM H H1 m := hFM0.trans ((FM_si (by decide)).trans (FM_Mx d2))
        have w41 : gi H1 81 41 = m := by rw [d2.1 81 41 (by omega), gi_ne (by decide), hg0 81 41 (by omega)]; exact h41
        have w110 : gi H1 110 m = vC B L q := by rw [d2.1 110 m (by omega), gi_sm, if_pos rfl]; exact wr_of (by omega) (by omega)
        have w112 : gi H1 112 m = 0 := by rw [d2.1 112 m (by omega), gi_ne (by decide)]; exact v112
        have w48 : gi H1 81 48 = gi H 81 48 := by rw [d2.1 81 48 (by omega), gi_ne (by decide), hg0 81 48 (by omega)]
        have w130 : ∀ k, gi H1 130 k = gi G 24 k := fun k => by rw [d2.1 130 k (by omega), gi_ne (by decide), hg0 130 k (by omega)]; exact hev k
        have hc := cnt_S (n := n0 + m) hp c2 hL hB hA h8 c3 d3 w41 (by omega) w110 w112 w130
        have eb : ((f_MemoryReader_counted G p ((n0 + m : Nat) : Int)).bind fun q3 => (f_Text_take q3 59).bind fun q4 => some q4) = (f_MemoryReader_counted G p ((n0 + m : Nat) : Int)).bind fun q3 => f_Text_take q3 59 := by
          congr 1; funext q3; rw [bS]
        rw [eb]
        rcases hc with h | h
        · exact Or.inl ⟨h.of hFr hFM1 w48 (fun _ => rfl), c2⟩
        · right
          obtain ⟨G', H', k, x, y1, y2, y3, y4, y5⟩ := h
          exact ⟨24 * p + (n0 + m), Or.inl (by omega), G', H', k, x, y1, y2, y3, y4.of hFM1, y5⟩
      · -- it begins with a word
        have hA1 := stp_at hA lq
        have h81 : gi (stp G i) 15 8 = 0 := by rw [stp_gi (by omega)]; exact h8
        have hF1 : FCm G (stp G i) (24 * p + (n0 + m)) := FCm_stp
        have h241 : ∀ k, gi (stp G i) 24 k = gi G 24 k := fun k => stp_gi (by omega)
        have w41 : gi H0 81 41 = m := by rw [hg0 81 41 (by omega)]; exact h41
        have w48 : gi H0 81 48 = gi H 81 48 := hg0 81 48 (by omega)
        have w130 : ∀ k, gi H0 130 k = gi (stp G i) 24 k := fun k => by rw [hg0 130 k (by omega), h241]; exact hev k
        have est : f_Text_step G = some (stp G i) := (step_at hA lq).1
        rw [if_neg c3, if_neg (fun z => c3 (k2.1 z)), est, Option.bind_some]
        have fin : ∀ so b c : Int, wr b = b → wr c = c → gi H0 109 m = so → ((so = 21 ∧ b = -30000 ∧ c = -1) ∨ (so = 22 ∧ b = 1 ∧ c = 30000)) → MemOk B L q p (n0 + m) m G H ((f_MemoryReader_takeEvent (stp G i)).bind fun r => (f_Remembered_put r.2 p ((n0 + m : Nat) : Int) r.1 b c).bind fun G2 => f_Text_take G2 59) (f_Model_aMemory_L214 H0 m) ∨ MemBad p (n0 + m) m G H ((f_MemoryReader_takeEvent (stp G i)).bind fun r => (f_Remembered_put r.2 p ((n0 + m : Nat) : Int) r.1 b c).bind fun G2 => f_Text_take G2 59) (f_Model_aMemory_L214 H0 m) := by
          intro so b c hb hc hso hcase
          refine mem_of hF1 hFM0 w48 h241 (tail_S (q := q) (q0 := q) hp c2 hL hb hc hA1 h81 hM0 lq w41 (by omega) (by rw [hso]; omega) w130 (Or.inr (Or.inr trivial)) (fun E hE1 hE2 hE3 => ?_) (Nat.le_refl _))
          rw [hso, v110, v112]
          refine ⟨⟨hE1, hE2⟩, hE3, by decide, by decide, ?_⟩
          rcases hcase with y | y
          · exact Or.inl y
          · exact Or.inr (Or.inl y)
        have conv : ∀ rc : Option GS, (MemOk B L q p (n0 + m) m G H rc (f_Model_aMemory_L214 H0 m) ∨ MemBad p (n0 + m) m G H rc (f_Model_aMemory_L214 H0 m)) → (MemOk B L q p (n0 + m) m G H rc (f_Model_aMemory_L214 H0 m) ∧ n0 + m < 24) ∨ MBx n0 p m G H rc (f_Model_aMemory_L214 H0 m) := by
          intro rc h
          rcases h with h | h
          · exact Or.inl ⟨h, c2⟩
          · right
            obtain ⟨G', H', k, x, y1, y2, y3, y4, y5⟩ := h
            exact ⟨24 * p + (n0 + m), Or.inl (by omega), G', H', k, x, y1, y2, y3, y4, y5⟩
        by_cases c4 : kC B L q = 130
        · have ek : ((f_MemoryReader_takeEvent (stp G i)).bind fun q2 => if kC B L q = 130 then f_MemoryReader_memory_L103 q2.2 p ((n0 + m : Nat) : Int) q2.1 1 else f_MemoryReader_memory_L103 q2.2 p ((n0 + m : Nat) : Int) q2.1 0) = (f_MemoryReader_takeEvent (stp G i)).bind fun r => (f_Remembered_put r.2 p ((n0 + m : Nat) : Int) r.1 (-30000) (-1)).bind fun G2 => f_Text_take G2 59 := by
            congr 1
            funext r
            rw [if_pos c4, f_MemoryReader_memory_L103, if_neg (by decide), f_MemoryReader_memory_L125, if_neg (by decide), f_MemoryReader_memory_L137]
            congr 1; funext G2; rw [bS]
          rw [ek]
          exact conv _ (fin 21 (-30000) (-1) (by decide) (by decide) (by rw [v109, k21.2 c4]; rfl) (Or.inl ⟨rfl, rfl, rfl⟩))
        · have c5 : kC B L q = 131 := by omega
          have ek : ((f_MemoryReader_takeEvent (stp G i)).bind fun q2 => if kC B L q = 130 then f_MemoryReader_memory_L103 q2.2 p ((n0 + m : Nat) : Int) q2.1 1 else f_MemoryReader_memory_L103 q2.2 p ((n0 + m : Nat) : Int) q2.1 0) = (f_MemoryReader_takeEvent (stp G i)).bind fun r => (f_Remembered_put r.2 p ((n0 + m : Nat) : Int) r.1 1 30000).bind fun G2 => f_Text_take G2 59 := by
            congr 1
            funext r
            rw [if_neg c4, f_MemoryReader_memory_L103, if_pos rfl, f_MemoryReader_memory_L125, if_pos rfl, f_MemoryReader_memory_L137]
            congr 1; funext G2; rw [bS]
          rw [ek]
          exact conv _ (fin 22 1 30000 (by decide) (by decide) (by rw [v109, k22.2 c5]; rfl) (Or.inr ⟨rfl, rfl, rfl⟩))
    · right
      rw [f_MemoryReader_memory_L38, if_neg (by omega), fail_at hA h8, f_Model_aMemory_L32, h41, hw, if_pos (by omega), bad_at hM]
      exact ⟨768, Or.inr rfl, flt G 3 q, bad H 3 q, 3, q, rfl, rfl, CB_flt rfl (by omega), MB_bad rfl (by omega), by decide⟩
  · right
    rw [if_neg c1, if_neg c1, fail_at hA h8, bad_at hM]
    exact ⟨768, Or.inr rfl, flt G 1 q, bad H 1 q, 1, q, rfl, rfl, CB_flt rfl (by omega), MB_bad rfl (by omega), by decide⟩
/-- frames of the loop -/
def FG (p n0 : Nat) (G G' : GS) : Prop := (∀ c j, ¬ (c = 15 ∧ (j = 7 ∨ ((j = 8 ∨ j = 9) ∧ gi G' 15 8 ≠ 0))) → ¬ ((26 ≤ c ∧ c ≤ 28) ∧ ((24 * p + n0 ≤ j ∧ j < 24 * p + 24) ∨ j = 768)) → gi G' c j = gi G c j) ∧ ∀ c j, gp G' c j = gp G c j
theorem FG.trans {p n0 : Nat} {G G' G'' : GS} (h : FG p n0 G G') (h' : FG p n0 G' G'') : FG p n0 G G'' := ⟨fun c j a b => by
  have e8' : gi G'' 15 8 = 0 → gi G'' 15 8 = gi G' 15 8 := fun y => h'.1 15 8 (by omega) (by omega)
  by_cases y : gi G'' 15 8 = 0
  · have := e8' y
    rw [h'.1 c j a b, h.1 c j (by omega) b]
  · rw [h'.1 c j a b, h.1 c j (by omega) b], fun c j => by rw [h'.2, h.2]⟩
theorem FCm.fg {p n0 x : Nat} {G G' : GS} (hx : (24 * p + n0 ≤ x ∧ x < 24 * p + 24) ∨ x = 768) (h : FCm G G' x) : FG p n0 G G' := ⟨fun c j a b => h.1 c j a (by omega), h.2⟩
def FJ (H H' : GS) : Prop := (∀ c j, ¬ (c = 81 ∧ (j = 41 ∨ (44 ≤ j ∧ j ≤ 49) ∨ j = 54)) → ¬ (109 ≤ c ∧ c ≤ 112) → gi H' c j = gi H c j) ∧ ∀ c j, gp H' c j = gp H c j
theorem FJ.trans {H H' H'' : GS} (h : FJ H H') (h' : FJ H' H'') : FJ H H'' := ⟨fun c j a b => by rw [h'.1 c j a b, h.1 c j a b], fun c j => by rw [h'.2, h.2]⟩
theorem FM.fj {H H' : GS} {m : Nat} (h : FM H H' m) : FJ H H' := ⟨fun c j a b => h.1 c j a (by omega), h.2⟩
/-- m memories told alike so far -/
def TM (p n0 m : Nat) (G H : GS) : Prop := ∀ j, j < m → gi G 26 (24 * p + (n0 + j)) = gi H 111 j ∧ Rmem G (gi H 109 j) (gi H 110 j) (gi H 111 j) (gi H 112 j) (gi G 27 (24 * p + (n0 + j))) (gi G 28 (24 * p + (n0 + j)))
theorem TM_1 {B : Nat → Int} {L q p n0 m : Nat} {G H : GS} {rc : Option GS} {rm : Option (Int × GS)} (hn : n0 + m < 24) (h : MemOk B L q p (n0 + m) m G H rc rm) (hT : TM p n0 m G H) : ∃ G' H' q' i', rc = some G' ∧ rm = some (1, H') ∧ FG p n0 G G' ∧ FJ H H' ∧ atC G' B L i' q' ∧ gi G' 15 8 = 0 ∧ atM H' 0 B L q' ∧ gi H' 81 41 = ((m + 1 : Nat) : Int) ∧ gi H' 81 48 = gi H 81 48 ∧ TM p n0 (m + 1) G' H' ∧ q < q' := by
  obtain ⟨G', H', q', E, b, c, s, N, O, a1, a2, ⟨b1, ⟨i', b2⟩, b3, b4, b5, b6⟩, ⟨c1, c2, c3, c4, c5, c6, c7, c8⟩, a5, a6⟩ := h
  refine ⟨G', H', q', i', a1, a2, b1.fg (Or.inl (by omega)), c1.fj, b2, b3, c2, by rw [c3]; omega, c4, fun j hj => ?_, a6⟩
  have h24 : ∀ k, gi G' 24 k = gi G 24 k := fun k => b1.1 24 k (by omega) (by omega)
  by_cases z : j = m
  · rw [z, b4, b5, b6, c5, c6, c7, c8]
    unfold Rmem at *
    rw [h24]
    exact ⟨rfl, a5⟩
  · have h0 := hT j (by omega)
    rw [b1.1 26 _ (by omega) (by omega), b1.1 27 _ (by omega) (by omega), b1.1 28 _ (by omega) (by omega), c1.1 109 j (by omega) (by omega), c1.1 110 j (by omega) (by omega), c1.1 111 j (by omega) (by omega), c1.1 112 j (by omega) (by omega)]
    unfold Rmem at *
    rw [h24]
    exact h0
def MemEnd (p n0 : Nat) (G H : GS) (rc : Option (Int × GS)) (rm : Option (Int × GS)) : Prop := (∃ (G' H' : GS) (M : Nat), rc = some ((M : Int), si G' 25 p ((n0 : Int) + (M : Int))) ∧ rm = f_Model_memories_L56 H' p 1 ∧ FG p n0 G G' ∧ FJ H H' ∧ gi G' 15 8 = 0 ∧ gi H' 81 41 = (M : Nat) ∧ gi H' 81 48 = 0 ∧ TM p n0 M G' H' ∧ n0 + M ≤ 24) ∨ ∃ G' H' k y, rc = some (-1, G') ∧ rm = f_Model_memories_L56 H' p 0 ∧ FG p n0 G G' ∧ FJ H H' ∧ gi G' 15 8 = k ∧ gi G' 15 9 = (y : Nat) ∧ gi H' 81 48 = k ∧ gi H' 81 49 = y ∧ (1 ≤ k ∧ k ≤ 3)
theorem MemEnd.of {p n0 : Nat} {G G0 H H0 : GS} {rc : Option (Int × GS)} {rm : Option (Int × GS)} (hF : FG p n0 G G0) (hJ : FJ H H0) (h : MemEnd p n0 G0 H0 rc rm) : MemEnd p n0 G H rc rm := by
  rcases h with ⟨G', H', M, a1, a2, a3, a4, a5⟩ | ⟨G', H', k, y, a1, a2, a3, a4, a5⟩
  · exact Or.inl ⟨G', H', M, a1, a2, hF.trans a3, hJ.trans a4, a5⟩
  · exact Or.inr ⟨G', H', k, y, a1, a2, hF.trans a3, hJ.trans a4, a5⟩
theorem L15_flt {F : GS} {p n0 : Int} (h : gi F 15 8 ≠ 0) (n : Nat) (x3 x4 : Int) : f_MemoryReader_read_L15 (n + 1) F p n0 x3 x4 = some (-1, F) := by
  have e66 : f_MemoryReader_read_L66 F p n0 x3 = some (-1, F) := by rw [f_MemoryReader_read_L66, if_neg h]
  rw [f_MemoryReader_read_L15]
  by_cases z : 800 < x4
  · rw [if_pos z, e66]
  · rw [if_neg z, if_neg h, e66]
theorem loop_M {B : Nat → Int} {L p n0 : Nat} (hp : p < 32) (hL : L ≤ 800) (hB : ∀ k, -128 ≤ B k ∧ B k ≤ 127) : ∀ (nf nr : Nat) (G H : GS) (i q m : Nat), 1 ≤ m → m ≤ q → 802 ≤ nf + q → 802 ≤ nr + q → atC G B L i q → gi G 15 8 = 0 → atM H 0 B L q → gi H 81 41 = m → gi H 81 48 = 0 → n0 + m ≤ 24 → (∀ k, gi H 130 k = gi G 24 k) → gi H 89 p = n0 → TM p n0 m G H → MemEnd p n0 G H (f_MemoryReader_read_L15 nf G p n0 m m) (f_Model_memories_L31 nr H p 1) := by
  intro nf
  induction nf with
  | zero =>
    intro nr G H i q m h1 h2 h3 h4 hA
    have := hA.2.2.1
    omega
  | succ nf ih =>
    intro nr G H i q m h1 h2 h3 h4 hA h8 hM h41 h48 hn hev h89 hT
    have hq := hA.2.2.1
    obtain ⟨nr', rfl⟩ : ∃ nr', nr = nr' + 1 := ⟨nr - 1, by omega⟩
    obtain ⟨nf', hnf⟩ : ∃ nf', nf = nf' + 1 := ⟨nf - 1, by omega⟩
    obtain ⟨nr'', hnr⟩ : ∃ nr'', nr' = nr'' + 1 := ⟨nr' - 1, by omega⟩
    have k0 := (mM B L q).1
    have hrl : FG p n0 G G := ⟨fun _ _ _ _ => rfl, fun _ _ => rfl⟩
    have hrj : FJ H H := ⟨fun _ _ _ _ => rfl, fun _ _ => rfl⟩
    have e48 : f_MemoryReader_read_L48 (f_MemoryReader_read_L15 nf) G p n0 m m = (f_MemoryReader_memory G p ((n0 + m : Nat) : Int)).bind fun q1 => f_MemoryReader_read_L15 nf q1 p n0 ((m + 1 : Nat) : Int) ((m + 1 : Nat) : Int) := by
      have hw1 : wr ((n0 : Int) + (m : Int)) = ((n0 + m : Nat) : Int) := by rw [wr_of (by omega) (by omega)]; omega
      have hw2 : wr ((m : Int) + 1) = ((m + 1 : Nat) : Int) := by rw [wr_of (by omega) (by omega)]; omega
      rw [f_MemoryReader_read_L48, hw1, hw2]
    rw [f_MemoryReader_read_L15, if_neg (by omega), if_pos h8, if_neg (by omega), kind_at hA, Option.bind_some, f_Model_memories_L31, if_neg (show ¬ (1 : Int) = 0 by decide), hM.2.1]
    by_cases c0 : kC B L q = 0
    · left
      rw [if_pos c0, if_pos (k0.2 c0), f_MemoryReader_read_L66, if_pos h8, gd, if_pos (by omega)]
      exact ⟨G, H, m, rfl, rfl, hrl, hrj, h8, h41, h48, hT, hn⟩
    · rw [if_neg c0, if_neg (fun z => c0 (k0.1 z)), e48, gd, if_pos (by omega), Int.toNat_natCast, h89]
      rcases mem_S (n0 := n0) hp hL hB hA h8 hM h41 hn hev with ⟨hok, hlt⟩ | ⟨x, hx, G', H', k, y, a1, a2, a3, a4, a5⟩
      · obtain ⟨G', H', q', i', a1, a2, a3, a4, a5, a6, a7, a8, a9, a10, a11⟩ := TM_1 hlt hok hT
        rw [a1, a2, Option.bind_some, Option.bind_some]
        exact (ih nr' G' H' i' q' (m + 1) (by omega) (by omega) (by omega) (by omega) a5 a6 a7 a8 (by rw [a9]; exact h48) (by omega) (fun k => by rw [a4.1 130 k (by omega) (by omega), a3.1 24 k (by omega) (by omega)]; exact hev k) (by rw [a4.1 89 p (by omega) (by omega)]; exact h89) a10).of a3 a4
      · right
        rw [a1, a2, Option.bind_some, Option.bind_some, hnf, L15_flt (by rw [a3.2.1]; omega), hnr, f_Model_memories_L31, if_pos rfl]
        exact ⟨G', H', k, y, rfl, rfl, a3.1.fg hx, a4.1.fj, a3.2.1, a3.2.2, a4.2.1, a4.2.2, a5⟩
/-- the class reads memories, the reference too -/
theorem begM_M {B : Nat → Int} {L p n0 i q : Nat} {G H : GS} (hp : p < 32) (hL : L ≤ 800) (hB : ∀ k, -128 ≤ B k ∧ B k ≤ 127) (hA : atC G B L i q) (h8 : gi G 15 8 = 0) (hM : atM H 0 B L q) (h41 : gi H 81 41 = 0) (h48 : gi H 81 48 = 0) (hn : n0 ≤ 24) (hev : ∀ k, gi H 130 k = gi G 24 k) (h89 : gi H 89 p = n0) (h25 : gi G 25 p = n0) : MemEnd p n0 G H (f_MemoryReader_read G p) ((f_Model_aMemory H (gi H 89 p)).bind fun q3 => f_Model_memories_L31 FU q3.2 p q3.1) := by
  have hq := hA.2.2.1
  have e1 : f_MemoryReader_read G p = (f_MemoryReader_memory G p ((n0 + 0 : Nat) : Int)).bind fun q1 => f_MemoryReader_read_L15 39999 q1 p n0 ((0 + 1 : Nat) : Int) ((0 + 1 : Nat) : Int) := by
    have hw1 : wr ((n0 : Int) + 0) = ((n0 + 0 : Nat) : Int) := by rw [wr_of (by omega) (by omega)]; omega
    have hw2 : wr ((0 : Int) + 1) = ((0 + 1 : Nat) : Int) := rfl
    rw [f_MemoryReader_read, gd, if_pos (by omega), Int.toNat_natCast, h25, show FU = 39999 + 1 from rfl, f_MemoryReader_read_L15, if_neg (by decide), if_pos h8, if_pos rfl, f_MemoryReader_read_L48, hw1, hw2]
  rw [e1, h89]
  rcases mem_S (n0 := n0) (m := 0) hp hL hB hA h8 hM h41 (by omega) hev with ⟨hok, hlt⟩ | ⟨x, hx, G', H', k, y, a1, a2, a3, a4, a5⟩
  · obtain ⟨G', H', q', i', a1, a2, a3, a4, a5, a6, a7, a8, a9, a10, a11⟩ := TM_1 hlt hok (fun j hj => by omega)
    rw [a1, a2, Option.bind_some, Option.bind_some]
    exact (loop_M hp hL hB 39999 FU G' H' i' q' (0 + 1) (by omega) (by omega) (by omega) (by unfold FU; omega) a5 a6 a7 a8 (by rw [a9]; exact h48) (by omega) (fun k => by rw [a4.1 130 k (by omega) (by omega), a3.1 24 k (by omega) (by omega)]; exact hev k) (by rw [a4.1 89 p (by omega) (by omega)]; exact h89) a10).of a3 a4
  · right
    rw [a1, a2, Option.bind_some, Option.bind_some, show 39999 = 39998 + 1 from rfl, L15_flt (by rw [a3.2.1]; omega), show FU = 39999 + 1 from rfl, f_Model_memories_L31, if_pos rfl]
    exact ⟨G', H', k, y, rfl, rfl, a3.1.fg hx, a4.1.fj, a3.2.1, a3.2.2, a4.2.1, a4.2.2, a5⟩
