/-! the law told whole by the reference -/
def Told (H : GS) (r k : Nat) : Prop := ∀ j, j < k → gi H 105 (30 * r + j) = gi H 113 j ∧ gi H 106 (31 * r + j) = gi H 114 j ∧ gi H 107 (30 * r + j) = gi H 115 j
theorem gF_fr {H H' : GS} (h : ∀ x j, 109 ≤ x → x ≤ 113 → gi H' x j = gi H x j) (k : Nat) : gF H' k = gF H k := by
  unfold gF wF
  rw [h 113 k (by decide) (by decide), h 109 k (by decide) (by decide), h 110 k (by decide) (by decide), h 111 k (by decide) (by decide), h 112 k (by decide) (by decide)]
theorem FO_out {H H' : GS} {r x j : Nat} (h : FO H H' r) (hx : x < 96 ∨ 108 < x) : gi H' x j = gi H x j := h.1 x j (by unfold own; omega)
theorem lines_M {r m : Nat} (hr : r < 4) (hm : m ≤ 30) : ∀ (t k n : Nat) (H : GS), k + t = m → t < n → gi H 81 41 = m → (∀ j, j < m → goodW (gi H 113 j) (wF H j)) → MV H r (vUp (gF H) k) → Told H r k → ∃ H' n', f_Model_reads_L64 n H r k = f_Model_reads_L64 (n' + 1) H' r m ∧ FO H H' r ∧ MV H' r (vUp (gF H') m) ∧ Told H' r m := by
  intro t
  induction t with
  | zero =>
    intro k n H h1 h2 h41 hg hv ht
    obtain ⟨n', rfl⟩ : ∃ n', n = n' + 1 := ⟨n - 1, by omega⟩
    have hk : k = m := by omega
    rw [hk] at hv ht ⊢
    exact ⟨H, n', rfl, ⟨fun _ _ _ => rfl, fun _ _ => rfl⟩, hv, ht⟩
  | succ t ih =>
    intro k n H h1 h2 h41 hg hv ht
    obtain ⟨n', rfl⟩ : ∃ n', n = n' + 1 := ⟨n - 1, by omega⟩
    obtain ⟨H1, r1, r2, r3, r4, r5⟩ := tells_M hr (show k < 30 by omega) hv (hg k (by omega))
    have hw1 : wr ((k : Int) + 1) = ((k + 1 : Nat) : Int) := by rw [wr_of (by omega) (by omega)]; omega
    have hgF : ∀ j, gF H1 j = gF H j := gF_fr (fun x j z1 z2 => FO_out r2 (by omega))
    have hv1 : MV H1 r (vUp (gF H1) (k + 1)) := by
      rw [vUp_fr (k + 1) (fun j _ => hgF j)]
      exact r3
    have ht1 : Told H1 r (k + 1) := by
      intro j hj
      have q113 : gi H1 113 j = gi H 113 j := FO_out r2 (by omega)
      have q114 : gi H1 114 j = gi H 114 j := FO_out r2 (by omega)
      have q115 : gi H1 115 j = gi H 115 j := FO_out r2 (by omega)
      rw [q113, q114, q115]
      by_cases z : j = k
      · rw [z]; exact r4
      · rw [r5 105 _ (by decide) (by decide) (by omega) (by omega), r5 106 _ (by decide) (by decide) (by omega) (by omega), r5 107 _ (by decide) (by decide) (by omega) (by omega)]
        exact ht j (by omega)
    obtain ⟨H', n'', s1, s2, s3, s4⟩ := ih (k + 1) n' H1 (by omega) (by omega) (by rw [FO_out r2 (by omega)]; exact h41) (fun j hj => by
      have := hgF j
      unfold gF at this
      rw [(Prod.mk.inj this).1, (Prod.mk.inj this).2]
      exact hg j hj) hv1 ht1
    refine ⟨H', n'', ?_, r2.trans s2, s3, s4⟩
    rw [f_Model_reads_L64, h41, if_neg (by omega), r1, Option.bind_some, hw1, s1]
theorem copy_M {r len : Nat} (hr : r < 4) (hl : len ≤ 810) : ∀ (m j n : Nat) (H : GS), j + m = 2 * len → m < n → gi H 81 42 = len → ∃ H', f_Model_reads_L114 n H r j = some (gi H 81 41, H') ∧ FO H H' r ∧ (∀ x k, x ≠ 108 → gi H' x k = gi H x k) ∧ (∀ t, t < j → gi H' 108 (1620 * r + t) = gi H 108 (1620 * r + t)) ∧ ∀ t, j ≤ t → t < 2 * len → gi H' 108 (1620 * r + t) = gi H 116 t := by
  intro m
  induction m with
  | zero =>
    intro j n H h1 h2 h42
    obtain ⟨n', rfl⟩ : ∃ n', n = n' + 1 := ⟨n - 1, by omega⟩
    have hw : wr (2 * ((len : Nat) : Int)) = ((2 * len : Nat) : Int) := by rw [wr_of (by omega) (by omega)]; omega
    exact ⟨H, by rw [f_Model_reads_L114, h42, hw, if_pos (by omega)], ⟨fun _ _ _ => rfl, fun _ _ => rfl⟩, fun _ _ _ => rfl, fun _ _ => rfl, fun t x y => by omega⟩
  | succ m ih =>
    intro j n H h1 h2 h42
    obtain ⟨n', rfl⟩ : ∃ n', n = n' + 1 := ⟨n - 1, by omega⟩
    have hw : wr (2 * ((len : Nat) : Int)) = ((2 * len : Nat) : Int) := by rw [wr_of (by omega) (by omega)]; omega
    have hw1 : wr ((j : Int) + 1) = ((j + 1 : Nat) : Int) := by rw [wr_of (by omega) (by omega)]; omega
    have hw2 : wr ((1620 * (r : Int)) + (j : Int)) = ((1620 * r + j : Nat) : Int) := by rw [wr_of (by omega) (by omega)]; omega
    obtain ⟨H', r1, r2, r3, r4, r5⟩ := ih (j + 1) n' (si H 108 (1620 * r + j) (gi H 116 j)) (by omega) (by omega) (by rw [gi_ne (by decide)]; exact h42)
    refine ⟨H', ?_, (FO_si (by unfold own; omega)).trans r2, fun x k z => by rw [r3 x k z, gi_ne z], fun t ht => by rw [r4 t (by omega), gi_sm, if_neg (show ¬ 1620 * r + t = 1620 * r + j by omega)], fun t ht1 ht2 => ?_⟩
    · rw [f_Model_reads_L114, h42, hw, if_neg (by omega), gd, if_pos (by omega), gd, if_pos (by rw [hw2]; omega), hw2, Int.toNat_natCast, Int.toNat_natCast]
      show f_Model_reads_L114 n' (si H 108 (1620 * r + j) (gi H 116 j)) r (wr ((j : Int) + 1)) = _
      rw [hw1, r1, gi_ne (by decide)]
    · by_cases z : t = j
      · rw [r4 t (by omega), z, gi_sm, if_pos rfl]; exact wr_of (gi_lo _ _ _) (gi_hi _ _ _)
      · rw [r5 t (by omega) ht2, gi_ne (by decide)]
/-- clears, tells, copies -/
theorem told_M {r m len : Nat} {H : GS} (hr : r < 4) (hm : m ≤ 30) (hl : len ≤ 810) (h41 : gi H 81 41 = m) (h42 : gi H 81 42 = len) (hg : ∀ j, j < m → goodW (gi H 113 j) (wF H j)) : ∃ H', ((f_Model_clears H r).bind fun q2 => f_Model_reads_L64 FU q2 r 0) = some ((m : Int), H') ∧ FO H H' r ∧ MV H' r (vUp (gF H) m) ∧ gi H' 104 r = m ∧ (∀ j, j < m → gi H' 105 (30 * r + j) = gi H 113 j ∧ gi H' 106 (31 * r + j) = gi H 114 j ∧ gi H' 107 (30 * r + j) = gi H 115 j) ∧ gi H' 106 (31 * r + m) = len ∧ ∀ t, t < 2 * len → gi H' 108 (1620 * r + t) = gi H 116 t := by
  obtain ⟨H1, a1, a2, a3⟩ := clears_M hr H
  have g1 : ∀ j, gF H1 j = gF H j := gF_fr (fun x j z1 z2 => FO_out a2 (by omega))
  obtain ⟨H2, n', b1, b2, b3, b4⟩ := lines_M hr hm m 0 FU H1 (by omega) (by unfold FU; omega) (by rw [FO_out a2 (by omega)]; exact h41) (fun j hj => by
    have := g1 j
    unfold gF at this
    rw [(Prod.mk.inj this).1, (Prod.mk.inj this).2]
    exact hg j hj) a3 (fun j hj => by omega)
  have hF2 := a2.trans b2
  have g2 : ∀ j, gF H2 j = gF H j := gF_fr (fun x j z1 z2 => FO_out hF2 (by omega))
  have k41 : gi H2 81 41 = m := by rw [FO_out hF2 (by omega)]; exact h41
  have k42 : gi H2 81 42 = len := by rw [FO_out hF2 (by omega)]; exact h42
  have hw6 : wr ((31 * (r : Int)) + (m : Int)) = ((31 * r + m : Nat) : Int) := by rw [wr_of (by omega) (by omega)]; omega
  have k41' : gi (si H2 106 (31 * r + m) (len : Int)) 81 41 = m := by rw [gi_ne (by decide)]; exact k41
  have hF3 : FO H2 (si (si H2 106 (31 * r + m) (len : Int)) 104 r (m : Int)) r := (FO_si (by unfold own; omega)).trans (FO_si (by unfold own; omega))
  obtain ⟨H4, c1, c2, c3, c4, c5⟩ := copy_M hr hl (2 * len) 0 FU (si (si H2 106 (31 * r + m) (len : Int)) 104 r (m : Int)) (by omega) (by unfold FU; omega) (by rw [gi_ne (by decide), gi_ne (by decide)]; exact k42)
  have hcell : ∀ x k, x ≠ 108 → ¬ (x = 106 ∧ k = 31 * r + m) → ¬ (x = 104 ∧ k = r) → gi H4 x k = gi H2 x k := fun x k z1 z2 z3 => by rw [c3 x k z1, gi_si, if_neg z3, gi_si, if_neg z2]
  refine ⟨H4, ?_, hF2.trans (hF3.trans c2), ?_, ?_, fun j hj => ?_, ?_, fun t ht => ?_⟩
  · rw [a1, Option.bind_some]
    have e0 : f_Model_reads_L64 FU H1 r 0 = f_Model_reads_L64 (n' + 1) H2 r m := b1
    rw [e0, f_Model_reads_L64, k41, if_pos (Int.le_refl _), gd, if_pos (by rw [hw6]; omega), hw6, Int.toNat_natCast, k42]
    show gd (0 ≤ (r : Int) ∧ (r : Int) < 4) (f_Model_reads_L114 FU (si (si H2 106 (31 * r + m) (len : Int)) 104 r (gi (si H2 106 (31 * r + m) (len : Int)) 81 41)) r 0) = _
    rw [gd, if_pos (by omega)]
    show f_Model_reads_L114 FU (si (si H2 106 (31 * r + m) (len : Int)) 104 r (gi (si H2 106 (31 * r + m) (len : Int)) 81 41)) r 0 = _
    rw [k41']
    have e1 := c1
    rw [gi_ne (by decide), gi_ne (by decide), k41] at e1
    exact e1
  · rw [← vUp_fr m (fun j _ => g2 j)]
    exact MV_fr (fun x k z1 z2 => hcell x k (by omega) (by omega) (by omega)) b3
  · rw [c3 104 r (by decide), gi_sm, if_pos rfl]; exact wr_of (by omega) (by omega)
  · have := b4 j hj
    rw [hcell 105 _ (by decide) (by omega) (by omega), hcell 106 _ (by decide) (by omega) (by omega), hcell 107 _ (by decide) (by omega) (by omega), this.1, this.2.1, this.2.2, FO_out hF2 (by omega), FO_out hF2 (by omega), FO_out hF2 (by omega)]
    exact ⟨rfl, rfl, rfl⟩
  · rw [c3 106 _ (by decide), gi_ne (by decide), gi_sm, if_pos rfl]; exact wr_of (by omega) (by omega)
  · rw [c5 t (by omega) ht, gi_ne (by decide), gi_ne (by decide), FO_out hF2 (by omega)]
/-- numbers of a law in their ranges -/
def rngV (v : LVs) : Prop := (∀ s, 0 ≤ v.1 s ∧ v.1 s ≤ 2) ∧ (∀ u, (0 ≤ v.2.1 u ∧ v.2.1 u ≤ 40) ∧ (0 ≤ v.2.2.1 u ∧ v.2.2.1 u ≤ 40) ∧ (0 ≤ v.2.2.2.1 u ∧ v.2.2.2.1 u ≤ 2)) ∧ (0 ≤ v.2.2.2.2.1 ∧ v.2.2.2.2.1 ≤ v.2.2.2.2.2.1 ∧ 1 ≤ v.2.2.2.2.2.1 ∧ v.2.2.2.2.2.1 ≤ 99999) ∧ (0 ≤ v.2.2.2.2.2.2.1 ∧ v.2.2.2.2.2.2.1 ≤ 9999) ∧ (0 ≤ v.2.2.2.2.2.2.2 ∧ v.2.2.2.2.2.2.2 ≤ 9999)
theorem rngV_up {g : Nat → Int × Wdd} : ∀ m, (∀ k, k < m → goodW (g k).1 (g k).2) → rngV (vUp g m) := by
  intro m
  induction m with
  | zero => intro _; exact ⟨fun _ => (show (0 : Int) ≤ 0 ∧ (0 : Int) ≤ 2 by decide), fun _ => (show ((0 : Int) ≤ 0 ∧ (0 : Int) ≤ 40) ∧ ((0 : Int) ≤ 0 ∧ (0 : Int) ≤ 40) ∧ ((0 : Int) ≤ 0 ∧ (0 : Int) ≤ 2) by decide), (show (0 : Int) ≤ 1 ∧ (1 : Int) ≤ 3 ∧ (1 : Int) ≤ 3 ∧ (3 : Int) ≤ 99999 by decide), (show (0 : Int) ≤ 9999 ∧ (9999 : Int) ≤ 9999 by decide), (show (0 : Int) ≤ 9999 ∧ (9999 : Int) ≤ 9999 by decide)⟩
  | succ m ih =>
    intro h
    obtain ⟨a1, a2, a3, a4, a5⟩ := ih (fun k hk => h k (by omega))
    obtain ⟨b3, b4, b5, b67⟩ := h m (by omega)
    rw [vUp]
    generalize (g m).1 = s at *
    generalize (g m).2 = w at *
    generalize vUp g m = v at *
    unfold eff
    by_cases s3 : s = 3
    · rw [if_pos s3]
      refine ⟨fun j => ?_, a2, a3, a4, a5⟩
      have := b3 s3
      have := a1 j
      dsimp only
      split <;> omega
    · rw [if_neg s3]
      by_cases s4 : s = 4
      · rw [if_pos s4]
        refine ⟨a1, fun u => ?_, a3, a4, a5⟩
        have := b4 s4
        have := a2 u
        dsimp only
        split <;> omega
      · rw [if_neg s4]
        by_cases s5 : s = 5
        · rw [if_pos s5]
          exact ⟨a1, a2, b5 s5, a4, a5⟩
        · rw [if_neg s5]
          by_cases s6 : s = 6
          · rw [if_pos s6]
            exact ⟨a1, a2, a3, b67 (Or.inl s6), a5⟩
          · rw [if_neg s6]
            by_cases s7 : s = 7
            · rw [if_pos s7]
              exact ⟨a1, a2, a3, a4, b67 (Or.inr s7)⟩
            · rw [if_neg s7]
              exact ⟨a1, a2, a3, a4, a5⟩
/-- what was read stands alike in class and reference -/
theorem law_alike {F H : GS} {r c m i q : Nat} {B : Nat → Int} {L : Nat} {ls : List (Int × Fm × Fm)} (hm : ls.length = m) (hm30 : m ≤ 30) (hok : ∀ l ∈ ls, okL l) (hst : (stepL ls).length ≤ 800) (hcd : (codeL ls).length ≤ 800) (hM : RM H B L q ls) (hV : MV F r (vUp (gF H) m)) (hC : CV F c (vUp (gF H) m)) (h9 : gi F c 9 = ((codeL ls).length : Nat)) (h5 : Ar F (c + 5) (codeL ls)) (h104 : gi F 104 r = m) (hT : ∀ j, j < m → gi F 105 (30 * r + j) = gi H 113 j ∧ gi F 106 (31 * r + j) = gi H 114 j ∧ gi F 107 (30 * r + j) = gi H 115 j) (h106 : gi F 106 (31 * r + m) = ((stepL ls).length : Nat)) (h108 : ∀ t, t < 2 * (stepL ls).length → gi F 108 (1620 * r + t) = gi H 116 t) : LawRel F r c := by
  obtain ⟨m1, m2, m3, m4, m5, m6⟩ := hM
  obtain ⟨v1, v2, v3, v4, v5, v6⟩ := hV
  obtain ⟨c1, c2, c3, c4, c5, c6⟩ := hC
  obtain ⟨g1, g2, g3, g4, g5⟩ := rngV_up (g := gF H) m (fun k hk => (m6 k (by omega)).2)
  generalize vUp (gF H) m = v at *
  refine ⟨⟨by rw [v3, c3], by rw [v4, c4], by rw [v5, c5], by rw [v6, c6]⟩, ⟨by rw [c3]; omega, by rw [c3, c4]; omega, by rw [c4]; omega, by rw [c4]; omega, by rw [c5]; omega, by rw [c5]; omega, by rw [c6]; omega, by rw [c6]; omega⟩, fun s hs => ?_, fun u hu => ?_, ls, by omega, hcd, by omega, hok, h9, h5, by rw [h104, hm], fun k hk => ?_, fun k hk => ?_, fun t ht => ?_⟩
  · have := g1 s
    rw [v1 s hs, c1 s hs]; omega
  · obtain ⟨x1, x2, x3⟩ := v2 u hu
    obtain ⟨y1, y2, y3⟩ := c2 u hu
    have := g2 u
    rw [x1, x2, x3, y1, y2, y3]; omega
  · have h1 := hT k (by omega)
    have h2 := (m6 k hk).1
    rw [h1.1, h1.2.2, h2.1, h2.2.2]; exact ⟨rfl, rfl⟩
  · by_cases z : k = m
    · rw [z, h106, ← hm, offL_len]
    · have h1 := hT k (by omega)
      rw [h1.2.1, (m6 k (by omega)).1.2.1]
  · have h1 := m4 t ht
    rw [h108 (2 * t) (by omega), show 1620 * r + 2 * t + 1 = 1620 * r + (2 * t + 1) by omega, h108 (2 * t + 1) (by omega)]
    exact h1
