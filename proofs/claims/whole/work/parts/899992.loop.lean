/-! the loop over lines; the reference's own laws -/
theorem L16_flt {F : GS} (h : gi F 15 8 ≠ 0) (m : Nat) (x2 x3 : Int) : f_LawReader_read_L16 (m + 1) F x2 x3 = some (-1, F) := by
  have e : f_LawReader_read_L110 F x2 = some (-1, F) := by rw [f_LawReader_read_L110, if_neg h]
  rw [f_LawReader_read_L16]
  by_cases z : 800 < x3
  · rw [if_pos z, e]
  · rw [if_neg z, if_neg h, e]
theorem loop_S {c : Nat} {B : Nat → Int} {L : Nat} {a1 : Int} (hc : lawC c = true) (hL : L ≤ 800) (hB : ∀ k, -128 ≤ B k ∧ B k ≤ 127) : ∀ (n : Nat) (G H : GS) (i q : Nat) (ls : List (Int × Fm × Fm)) (x3 : Int), 802 ≤ n + i → RC G c B L i q (codeL ls) (vUp (gF H) ls.length) → RM H B L q ls → (∀ l ∈ ls, okL l) → (stepL ls).length ≤ i → ls.length ≤ 30 → 0 ≤ x3 → x3 ≤ i → (∃ G' H' i' q' ls', f_LawReader_read_L16 n G ls.length x3 = some ((ls'.length : Int), G') ∧ f_Model_reads_L28 n H a1 1 = f_Model_reads_L47 H' a1 1 ∧ FW G G' c ∧ FR H H' ∧ RC G' c B L i' q' (codeL ls') (vUp (gF H') ls'.length) ∧ RM H' B L q' ls' ∧ (∀ l ∈ ls', okL l) ∧ (stepL ls').length ≤ i' ∧ ls'.length ≤ 30) ∨ ∃ G' H' k x, f_LawReader_read_L16 n G ls.length x3 = some (-1, G') ∧ f_Model_reads_L28 n H a1 1 = f_Model_reads_L47 H' a1 0 ∧ FW G G' c ∧ FR H H' ∧ gi G' 15 8 = k ∧ gi G' 15 9 = x ∧ gi H' 81 48 = k ∧ gi H' 81 49 = x ∧ (1 ≤ k ∧ k ≤ 3) := by
  intro n
  induction n with
  | zero =>
    intro G H i q ls x3 hn hR
    have := (atC_hd hR.1).1
    omega
  | succ n ih =>
    intro G H i q ls x3 hn hR hM hok hst hl h0 hx
    have hA := hR.1
    have hi8 := (atC_hd hA).1
    have hq := hA.2.2.1
    obtain ⟨n', hn'⟩ : ∃ n', n = n' + 1 := ⟨n - 1, by omega⟩
    have t0 := mLi (a := 0) (b := 0) (by decide +kernel) B L q
    have tk := of_decide_eq_true (mLp (fun K m => decide ((3 ≤ m ∧ m ≤ 9) ↔ (K = 105 ∨ K = 114 ∨ (116 ≤ K ∧ K ≤ 120)))) (by decide +kernel) B L q)
    have e110 : f_LawReader_read_L110 G ls.length = some ((ls.length : Int), G) := by rw [f_LawReader_read_L110, if_pos hR.2.1]
    have m45 := hM.1.2.1
    have est : f_LawReader_startsLine G (kC B L q) = some (if kC B L q = 105 ∨ kC B L q = 114 ∨ (116 ≤ kC B L q ∧ kC B L q ≤ 120) then 1 else 0) := by
      rw [f_LawReader_startsLine]
      by_cases z1 : kC B L q = 105
      · rw [if_pos z1, if_pos (Or.inl z1)]
      · rw [if_neg z1]
        by_cases z2 : kC B L q = 114
        · rw [if_pos z2, if_pos (Or.inr (Or.inl z2))]
        · rw [if_neg z2]
          by_cases z3 : kC B L q < 116
          · rw [if_pos z3, if_neg (by omega)]
          · rw [if_neg z3]
            by_cases z4 : 120 < kC B L q
            · rw [if_pos z4, if_neg (by omega)]
            · rw [if_neg z4, if_pos (by omega)]
    have ecl : f_LawReader_read_L16 (n + 1) G ls.length x3 = if kC B L q = 0 then f_LawReader_read_L110 G ls.length else (f_LawReader_startsLine G (kC B L q)).bind fun q3 => if q3 = 0 then (f_Text_fail G 1).bind fun q5 => f_LawReader_read_L85 (f_LawReader_read_L16 n) q5 ls.length x3 (kC B L q) else if (ls.length : Int) < 30 then f_LawReader_read_L85 (f_LawReader_read_L16 n) G ls.length x3 (kC B L q) else (f_Text_fail G 3).bind fun q4 => f_LawReader_read_L85 (f_LawReader_read_L16 n) q4 ls.length x3 (kC B L q) := by
      rw [f_LawReader_read_L16, if_neg (by omega), if_pos hR.2.1, kind_at hA, Option.bind_some]
      rfl
    have erf : f_Model_reads_L28 (n + 1) H a1 1 = if mC 1 B L q = 0 then f_Model_reads_L47 H a1 1 else (f_Model_aLine H).bind fun q1 => f_Model_reads_L28 n q1.2 a1 q1.1 := by
      rw [f_Model_reads_L28, if_neg (by decide), m45]
    have e28 : ∀ H' : GS, f_Model_reads_L28 n H' a1 0 = f_Model_reads_L47 H' a1 0 := by
      intro H'
      rw [hn', f_Model_reads_L28, if_pos rfl]
    have e85 : ∀ F : GS, gi F 15 8 ≠ 0 → f_LawReader_read_L85 (f_LawReader_read_L16 n) F ls.length x3 (kC B L q) = some (-1, F) := by
      intro F hF
      rw [f_LawReader_read_L85, if_neg hF, f_LawReader_read_L104, hn', L16_flt hF]
    rw [ecl, erf]
    by_cases c0 : kC B L q = 0
    · left
      rw [if_pos c0, if_pos (t0.2 c0), e110]
      exact ⟨G, H, i, q, ls, rfl, rfl, ⟨fun _ _ _ _ _ _ => rfl, fun _ _ => rfl⟩, ⟨fun _ _ _ _ => rfl, fun _ _ => rfl⟩, hR, hM, hok, hst, hl⟩
    · rw [if_neg c0, if_neg (fun z => c0 (t0.1 z)), est, Option.bind_some]
      by_cases c1 : kC B L q = 105 ∨ kC B L q = 114 ∨ (116 ≤ kC B L q ∧ kC B L q ≤ 120)
      · rw [if_pos c1, if_neg (by decide)]
        by_cases c2 : ls.length < 30
        · rw [if_pos (by omega), f_LawReader_read_L85, if_pos hR.2.1]
          obtain ⟨s, hs⟩ : ∃ s, kwS (kC B L q) s := by
            unfold kwS
            by_cases y1 : kC B L q = 105
            · exact ⟨3, by omega⟩
            · by_cases y2 : kC B L q = 114
              · exact ⟨9, by omega⟩
              · exact ⟨kC B L q - 112, by omega⟩
          rcases line_S hc hL hB hR hM hst c2 hs with ⟨G1, H1, i1, q1, l, a1', a2, a3, a4, a5, a6, a7, a8, a9⟩ | ⟨G1, H1, k, x, a1', a2, a3, a4, a5, a6, a7, a8, a9⟩
          · rw [a1', a2, Option.bind_some, Option.bind_some]
            have hll : ((ls ++ [l]).length : Nat) = ls.length + 1 := by simp
            have hi1 := (atC_hd a6.1).1
            have hw1 : wr ((ls.length : Int) + 1) = ((ls ++ [l]).length : Nat) := by rw [wr_of (by omega) (by omega)]; omega
            have hw2 : wr (x3 + 1) = x3 + 1 := wr_of (by omega) (by omega)
            rw [f_LawReader_read_L104, hw1, hw2]
            rcases ih G1 H1 i1 q1 (ls ++ [l]) (x3 + 1) (by omega) (by rw [hll]; exact a6) a7 (fun y hy => by
              rcases List.mem_append.mp hy with z | z
              · exact hok y z
              · rw [List.mem_singleton.mp z]; exact a8) a9 (by omega) (by omega) (by omega) with ⟨G', H', i', q', ls', b1, b2, b3, b4, b5⟩ | ⟨G', H', k, x, b1, b2, b3, b4, b5⟩
            · exact Or.inl ⟨G', H', i', q', ls', b1, b2, a3.trans b3, a4.trans b4, b5⟩
            · exact Or.inr ⟨G', H', k, x, b1, b2, a3.trans b3, a4.trans b4, b5⟩
          · right
            rw [a1', a2, Option.bind_some, Option.bind_some, f_LawReader_read_L104, hn', L16_flt (by rw [a5]; omega), ← hn']
            exact ⟨G1, H1, k, x, rfl, e28 H1, a3, a4, a5, a6, a7, a8, a9⟩
        · right
          have hf := flt_89 (G := G) (q := q) (k := 3) (by decide) (by omega)
          rw [if_neg (by omega), fail_at hA hR.2.1, Option.bind_some, e85 _ (by rw [hf.1]; decide), f_Model_aLine, m45, isIn_eq, if_pos (tk.2 c1), Option.bind_some, if_neg (by decide), hM.2.2.2.2.1, if_pos (by omega), bad_at hM.1]
          exact ⟨flt G 3 q, bad H 3 q, 3, q, rfl, e28 _, (FW_flt (by decide)), FR_bad, hf.1, hf.2, bad_48 rfl, bad_49 (by omega), by decide⟩
      · right
        have hf := flt_89 (G := G) (q := q) (k := 1) (by decide) (by omega)
        rw [if_neg c1, if_pos rfl, fail_at hA hR.2.1, Option.bind_some, e85 _ (by rw [hf.1]; decide), f_Model_aLine, m45, isIn_eq, if_neg (fun z => c1 (tk.1 z)), Option.bind_some, if_pos rfl, bad_at hM.1]
        exact ⟨flt G 1 q, bad H 1 q, 1, q, rfl, e28 _, (FW_flt (by decide)), FR_bad, hf.1, hf.2, bad_48 rfl, bad_49 (by omega), by decide⟩
/-- the cells of the reference's law r -/
def own (r x k : Nat) : Prop := (((96 ≤ x ∧ x ≤ 99) ∨ x = 104) ∧ k = r) ∨ (x = 100 ∧ 4 * r ≤ k ∧ k < 4 * r + 4) ∨ ((101 ≤ x ∧ x ≤ 103) ∧ 3 * r ≤ k ∧ k < 3 * r + 3) ∨ ((x = 105 ∨ x = 107) ∧ 30 * r ≤ k ∧ k < 30 * r + 30) ∨ (x = 106 ∧ 31 * r ≤ k ∧ k < 31 * r + 31) ∨ (x = 108 ∧ 1620 * r ≤ k ∧ k < 1620 * r + 1620)
def FO (H H' : GS) (r : Nat) : Prop := (∀ x k, ¬ own r x k → gi H' x k = gi H x k) ∧ ∀ x k, gp H' x k = gp H x k
theorem FO.trans {H H' H'' : GS} {r : Nat} (h : FO H H' r) (h' : FO H' H'' r) : FO H H'' r := ⟨fun x k a1 => by rw [h'.1 x k a1, h.1 x k a1], fun x k => by rw [h'.2, h.2]⟩
theorem FO_si {H : GS} {r x k : Nat} {v : Int} (h : own r x k) : FO H (si H x k v) r := ⟨fun y j a => by rw [gi_si, if_neg (fun z => a (by rw [z.1, z.2]; exact h))], fun _ _ => rfl⟩
def MV (H : GS) (r : Nat) (v : LVs) : Prop := (∀ s, s < 4 → gi H 100 (4 * r + s) = v.1 s) ∧ (∀ u, u < 3 → gi H 101 (3 * r + u) = v.2.1 u ∧ gi H 102 (3 * r + u) = v.2.2.1 u ∧ gi H 103 (3 * r + u) = v.2.2.2.1 u) ∧ gi H 96 r = v.2.2.2.2.1 ∧ gi H 97 r = v.2.2.2.2.2.1 ∧ gi H 98 r = v.2.2.2.2.2.2.1 ∧ gi H 99 r = v.2.2.2.2.2.2.2
theorem MV_fr {H H' : GS} {r : Nat} {v : LVs} (h : ∀ x k, 96 ≤ x → x ≤ 103 → gi H' x k = gi H x k) (hv : MV H r v) : MV H' r v := by
  obtain ⟨a1, a2, a3, a4, a5, a6⟩ := hv
  exact ⟨fun j hj => by rw [h 100 _ (by decide) (by decide)]; exact a1 j hj, fun u hu => by rw [h 101 _ (by decide) (by decide), h 102 _ (by decide) (by decide), h 103 _ (by decide) (by decide)]; exact a2 u hu, by rw [h 96 r (by decide) (by decide)]; exact a3, by rw [h 97 r (by decide) (by decide)]; exact a4, by rw [h 98 r (by decide) (by decide)]; exact a5, by rw [h 99 r (by decide) (by decide)]; exact a6⟩
theorem clear65 {r : Nat} (hr : r < 4) : ∀ (m u n : Nat) (H : GS), u + m = 3 → m < n → ∃ H', f_Model_clears_L65 n H r u = some H' ∧ FO H H' r ∧ (∀ x k, ¬ (101 ≤ x ∧ x ≤ 103) → gi H' x k = gi H x k) ∧ (∀ w, w < u → gi H' 101 (3 * r + w) = gi H 101 (3 * r + w) ∧ gi H' 102 (3 * r + w) = gi H 102 (3 * r + w) ∧ gi H' 103 (3 * r + w) = gi H 103 (3 * r + w)) ∧ ∀ w, u ≤ w → w < 3 → gi H' 101 (3 * r + w) = 0 ∧ gi H' 102 (3 * r + w) = 0 ∧ gi H' 103 (3 * r + w) = 0 := by
  intro m
  induction m with
  | zero =>
    intro u n H h1 h2
    obtain ⟨n', rfl⟩ : ∃ n', n = n' + 1 := ⟨n - 1, by omega⟩
    exact ⟨H, by rw [f_Model_clears_L65, if_pos (by omega)], ⟨fun _ _ _ => rfl, fun _ _ => rfl⟩, fun _ _ _ => rfl, fun _ _ => ⟨rfl, rfl, rfl⟩, fun w a b => by omega⟩
  | succ m ih =>
    intro u n H h1 h2
    obtain ⟨n', rfl⟩ : ∃ n', n = n' + 1 := ⟨n - 1, by omega⟩
    have hw : wr ((3 * (r : Int)) + (u : Int)) = ((3 * r + u : Nat) : Int) := by rw [wr_of (by omega) (by omega)]; omega
    have hw1 : wr ((u : Int) + 1) = ((u + 1 : Nat) : Int) := by rw [wr_of (by omega) (by omega)]; omega
    have g : (0 : Int) ≤ ((3 * r + u : Nat) : Int) ∧ ((3 * r + u : Nat) : Int) < 12 := by omega
    have hg : ∀ x k, ¬ ((101 ≤ x ∧ x ≤ 103) ∧ k = 3 * r + u) → gi (si (si (si H 101 (3 * r + u) 0) 102 (3 * r + u) 0) 103 (3 * r + u) 0) x k = gi H x k := fun x k z => by rw [gi_si, if_neg (by omega), gi_si, if_neg (by omega), gi_si, if_neg (by omega)]
    have v1 : gi (si (si (si H 101 (3 * r + u) 0) 102 (3 * r + u) 0) 103 (3 * r + u) 0) 101 (3 * r + u) = 0 := by rw [gi_ne (by decide), gi_ne (by decide), gi_sm, if_pos rfl]; exact wr_zero
    have v2 : gi (si (si (si H 101 (3 * r + u) 0) 102 (3 * r + u) 0) 103 (3 * r + u) 0) 102 (3 * r + u) = 0 := by rw [gi_ne (by decide), gi_sm, if_pos rfl]; exact wr_zero
    have v3 : gi (si (si (si H 101 (3 * r + u) 0) 102 (3 * r + u) 0) 103 (3 * r + u) 0) 103 (3 * r + u) = 0 := by rw [gi_sm, if_pos rfl]; exact wr_zero
    obtain ⟨H', r1, r2, r3, r4, r5⟩ := ih (u + 1) n' (si (si (si H 101 (3 * r + u) 0) 102 (3 * r + u) 0) 103 (3 * r + u) 0) (by omega) (by omega)
    refine ⟨H', ?_, (((FO_si (by unfold own; omega)).trans (FO_si (by unfold own; omega))).trans (FO_si (by unfold own; omega))).trans r2, fun x k z => by rw [r3 x k z, hg x k (by omega)], fun w hw => ?_, fun w a b => ?_⟩
    · rw [f_Model_clears_L65, if_neg (by omega), hw]
      simp only [gd, if_pos g, wG, Int.toNat_natCast, hw1]
      exact r1
    · obtain ⟨b1, b2, b3⟩ := r4 w (by omega)
      rw [b1, b2, b3, hg 101 _ (by omega), hg 102 _ (by omega), hg 103 _ (by omega)]; exact ⟨rfl, rfl, rfl⟩
    · by_cases z : w = u
      · obtain ⟨b1, b2, b3⟩ := r4 w (by omega)
        rw [b1, b2, b3, z]; exact ⟨v1, v2, v3⟩
      · exact r5 w (by omega) b
theorem clear41 {r : Nat} (hr : r < 4) : ∀ (m s n : Nat) (H : GS), s + m = 4 → m < n → ∃ H', f_Model_clears_L41 n H r s = some H' ∧ FO H H' r ∧ (∀ x k, ¬ (100 ≤ x ∧ x ≤ 103) → gi H' x k = gi H x k) ∧ (∀ w, w < s → gi H' 100 (4 * r + w) = gi H 100 (4 * r + w)) ∧ (∀ w, s ≤ w → w < 4 → gi H' 100 (4 * r + w) = 0) ∧ ∀ w, w < 3 → gi H' 101 (3 * r + w) = 0 ∧ gi H' 102 (3 * r + w) = 0 ∧ gi H' 103 (3 * r + w) = 0 := by
  intro m
  induction m with
  | zero =>
    intro s n H h1 h2
    obtain ⟨n', rfl⟩ : ∃ n', n = n' + 1 := ⟨n - 1, by omega⟩
    obtain ⟨H', r1, r2, r3, r4, r5⟩ := clear65 hr 3 0 FU H rfl (by unfold FU; omega)
    refine ⟨H', ?_, r2, fun x k z => r3 x k (by omega), fun w hw => r3 _ _ (by omega), fun w a b => by omega, fun w hw => r5 w (by omega) hw⟩
    rw [f_Model_clears_L41, if_pos (by omega)]
    exact r1
  | succ m ih =>
    intro s n H h1 h2
    obtain ⟨n', rfl⟩ : ∃ n', n = n' + 1 := ⟨n - 1, by omega⟩
    have hw : wr ((4 * (r : Int)) + (s : Int)) = ((4 * r + s : Nat) : Int) := by rw [wr_of (by omega) (by omega)]; omega
    have hw1 : wr ((s : Int) + 1) = ((s + 1 : Nat) : Int) := by rw [wr_of (by omega) (by omega)]; omega
    have g : (0 : Int) ≤ ((4 * r + s : Nat) : Int) ∧ ((4 * r + s : Nat) : Int) < 16 := by omega
    obtain ⟨H', r1, r2, r3, r4, r5, r6⟩ := ih (s + 1) n' (si H 100 (4 * r + s) 0) (by omega) (by omega)
    refine ⟨H', ?_, (FO_si (by unfold own; omega)).trans r2, fun x k z => by rw [r3 x k z, gi_ne (by omega)], fun w hw => ?_, fun w a b => ?_, r6⟩
    · rw [f_Model_clears_L41, if_neg (by omega), hw]
      simp only [gd, if_pos g, wG, Int.toNat_natCast, hw1]
      exact r1
    · rw [r4 w (by omega), gi_sm, if_neg (by omega)]
    · by_cases z : w = s
      · rw [r4 w (by omega), gi_sm, if_pos (by omega)]; exact wr_zero
      · exact r5 w (by omega) b
theorem clears_M {r : Nat} (hr : r < 4) (H : GS) : ∃ H', f_Model_clears H r = some H' ∧ FO H H' r ∧ MV H' r v00 := by
  have g : (0 : Int) ≤ (r : Int) ∧ (r : Int) < 4 := by omega
  obtain ⟨H', r1, r2, r3, r4, r5, r6⟩ := clear41 hr 4 0 FU (si (si (si (si (si H 96 r 1) 97 r 3) 98 r 9999) 99 r 9999) 104 r 0) rfl (by unfold FU; omega)
  refine ⟨H', ?_, ((((((FO_si (by unfold own; omega)).trans (FO_si (by unfold own; omega))).trans (FO_si (by unfold own; omega))).trans (FO_si (by unfold own; omega))).trans (FO_si (by unfold own; omega)))).trans r2, fun s hs => r5 s (by omega) hs, fun u hu => r6 u hu, ?_, ?_, ?_, ?_⟩
  · rw [f_Model_clears]
    simp only [gd, if_pos g, wG, Int.toNat_natCast]
    exact r1
  · rw [r3 96 r (by omega), gi_ne (by decide), gi_ne (by decide), gi_ne (by decide), gi_ne (by decide), gi_sm, if_pos rfl]; exact wr_of (by omega) (by omega)
  · rw [r3 97 r (by omega), gi_ne (by decide), gi_ne (by decide), gi_ne (by decide), gi_sm, if_pos rfl]; exact wr_of (by omega) (by omega)
  · rw [r3 98 r (by omega), gi_ne (by decide), gi_ne (by decide), gi_sm, if_pos rfl]; exact wr_of (by omega) (by omega)
  · rw [r3 99 r (by omega), gi_ne (by decide), gi_sm, if_pos rfl]; exact wr_of (by omega) (by omega)
