/-! the reference tells a law whole -/
theorem tell94 {r k : Nat} (hr : r < 4) (hk : k < 30) {a b : Int} (ha : wr a = a) : ∀ (m s n : Nat) (H : GS), s + m = 4 → m < n → gi H 109 k = a → gi H 110 k = b → ∃ H', f_Model_tells_L94 n H r k s = some H' ∧ FO H H' r ∧ (∀ x j, x ≠ 100 → gi H' x j = gi H x j) ∧ (∀ w, w < s → gi H' 100 (4 * r + w) = gi H 100 (4 * r + w)) ∧ ∀ w, s ≤ w → w < 4 → gi H' 100 (4 * r + w) = if b = -1 ∨ b = (w : Int) then a else gi H 100 (4 * r + w) := by
  intro m
  induction m with
  | zero =>
    intro s n H h1 h2 h3 h4
    obtain ⟨n', rfl⟩ : ∃ n', n = n' + 1 := ⟨n - 1, by omega⟩
    exact ⟨H, by rw [f_Model_tells_L94, if_pos (by omega)], ⟨fun _ _ _ => rfl, fun _ _ => rfl⟩, fun _ _ _ => rfl, fun _ _ => rfl, fun w x y => by omega⟩
  | succ m ih =>
    intro s n H h1 h2 h3 h4
    obtain ⟨n', rfl⟩ : ∃ n', n = n' + 1 := ⟨n - 1, by omega⟩
    have hw : wr ((4 * (r : Int)) + (s : Int)) = ((4 * r + s : Nat) : Int) := by rw [wr_of (by omega) (by omega)]; omega
    have hw1 : wr ((s : Int) + 1) = ((s + 1 : Nat) : Int) := by rw [wr_of (by omega) (by omega)]; omega
    have gk : (0 : Int) ≤ (k : Int) ∧ (k : Int) < 30 := by omega
    have e119 : f_Model_tells_L119 (f_Model_tells_L94 n') H r k s = f_Model_tells_L94 n' (si H 100 (4 * r + s) a) r k ((s + 1 : Nat) : Int) := by
      rw [f_Model_tells_L119, gd, if_pos gk, gd, if_pos (by rw [hw]; omega), hw, Int.toNat_natCast, Int.toNat_natCast, h3]
      show f_Model_tells_L135 _ (si H 100 (4 * r + s) a) r k s = _
      rw [f_Model_tells_L135, hw1]
    have e135 : f_Model_tells_L135 (f_Model_tells_L94 n') H r k s = f_Model_tells_L94 n' H r k ((s + 1 : Nat) : Int) := by
      rw [f_Model_tells_L135, hw1]
    have e0 : f_Model_tells_L94 (n' + 1) H r k s = if b = -1 ∨ b = (s : Int) then f_Model_tells_L94 n' (si H 100 (4 * r + s) a) r k ((s + 1 : Nat) : Int) else f_Model_tells_L94 n' H r k ((s + 1 : Nat) : Int) := by
      rw [f_Model_tells_L94, if_neg (by omega), gd, if_pos gk, Int.toNat_natCast, h4]
      by_cases z1 : b = -1
      · rw [if_pos z1, if_pos (Or.inl z1), e119]
      · rw [if_neg z1, gd, if_pos gk]
        by_cases z2 : b = (s : Int)
        · rw [if_pos z2, if_pos (Or.inr z2), e119]
        · rw [if_neg z2, if_neg (by omega), e135]
    rw [e0]
    by_cases z : b = -1 ∨ b = (s : Int)
    · rw [if_pos z]
      obtain ⟨H', r1, r2, r3, r4, r5⟩ := ih (s + 1) n' (si H 100 (4 * r + s) a) (by omega) (by omega) (by rw [gi_ne (by decide)]; exact h3) (by rw [gi_ne (by decide)]; exact h4)
      refine ⟨H', r1, (FO_si (by unfold own; omega)).trans r2, fun x j y => by rw [r3 x j y, gi_ne y], fun w y => by rw [r4 w (by omega), gi_sm, if_neg (by omega)], fun w x y => ?_⟩
      by_cases e : w = s
      · rw [r4 w (by omega), gi_sm, if_pos (by omega), if_pos (by rw [e]; exact z)]; exact ha
      · rw [r5 w (by omega) y, gi_sm, if_neg (show ¬ 4 * r + w = 4 * r + s by omega)]
    · rw [if_neg z]
      obtain ⟨H', r1, r2, r3, r4, r5⟩ := ih (s + 1) n' H (by omega) (by omega) h3 h4
      refine ⟨H', r1, r2, r3, fun w y => r4 w (by omega), fun w x y => ?_⟩
      by_cases e : w = s
      · rw [r4 w (by omega), if_neg (by rw [e]; exact z)]
      · exact r5 w (by omega) y
theorem tells_M {r k : Nat} {H : GS} {v : LVs} (hr : r < 4) (hk : k < 30) (hv : MV H r v) (hg : goodW (gi H 113 k) (wF H k)) : ∃ H', f_Model_tells H r k = some H' ∧ FO H H' r ∧ MV H' r (eff (gi H 113 k) (wF H k) v) ∧ (gi H' 105 (30 * r + k) = gi H 113 k ∧ gi H' 106 (31 * r + k) = gi H 114 k ∧ gi H' 107 (30 * r + k) = gi H 115 k) ∧ ∀ x j, 104 ≤ x → x ≤ 108 → ¬ ((x = 105 ∨ x = 107) ∧ j = 30 * r + k) → ¬ (x = 106 ∧ j = 31 * r + k) → gi H' x j = gi H x j := by
  have hw5 : wr ((30 * (r : Int)) + (k : Int)) = ((30 * r + k : Nat) : Int) := by rw [wr_of (by omega) (by omega)]; omega
  have hw6 : wr ((31 * (r : Int)) + (k : Int)) = ((31 * r + k : Nat) : Int) := by rw [wr_of (by omega) (by omega)]; omega
  have gk : (0 : Int) ≤ (k : Int) ∧ (k : Int) < 30 := by omega
  have gr : (0 : Int) ≤ (r : Int) ∧ (r : Int) < 4 := by omega
  have hg3 : ∀ x j, ¬ ((x = 105 ∨ x = 107) ∧ j = 30 * r + k) → ¬ (x = 106 ∧ j = 31 * r + k) → gi (si (si (si H 105 (30 * r + k) (gi H 113 k)) 106 (31 * r + k) (gi H 114 k)) 107 (30 * r + k) (gi H 115 k)) x j = gi H x j := fun x j z1 z2 => by rw [gi_si, if_neg (by omega), gi_si, if_neg (by omega), gi_si, if_neg (by omega)]
  have hwi : ∀ c j, wr (gi H c j) = gi H c j := fun c j => wr_of (gi_lo _ _ _) (gi_hi _ _ _)
  have v5 : gi (si (si (si H 105 (30 * r + k) (gi H 113 k)) 106 (31 * r + k) (gi H 114 k)) 107 (30 * r + k) (gi H 115 k)) 105 (30 * r + k) = gi H 113 k := by rw [gi_ne (by decide), gi_ne (by decide), gi_sm, if_pos rfl]; exact hwi _ _
  have v6 : gi (si (si (si H 105 (30 * r + k) (gi H 113 k)) 106 (31 * r + k) (gi H 114 k)) 107 (30 * r + k) (gi H 115 k)) 106 (31 * r + k) = gi H 114 k := by rw [gi_ne (by decide), gi_sm, if_pos rfl]; exact hwi _ _
  have v7 : gi (si (si (si H 105 (30 * r + k) (gi H 113 k)) 106 (31 * r + k) (gi H 114 k)) 107 (30 * r + k) (gi H 115 k)) 107 (30 * r + k) = gi H 115 k := by rw [gi_sm, if_pos rfl]; exact hwi _ _
  have hFO : FO H (si (si (si H 105 (30 * r + k) (gi H 113 k)) 106 (31 * r + k) (gi H 114 k)) 107 (30 * r + k) (gi H 115 k)) r := ((FO_si (by unfold own; omega)).trans (FO_si (by unfold own; omega))).trans (FO_si (by unfold own; omega))
  have g5 : (0 : Int) ≤ ((30 * r + k : Nat) : Int) ∧ ((30 * r + k : Nat) : Int) < 120 := by omega
  have g6 : (0 : Int) ≤ ((31 * r + k : Nat) : Int) ∧ ((31 * r + k : Nat) : Int) < 124 := by omega
  have gk1 : (0 : Int) ≤ (k : Int) ∧ (k : Int) < 31 := by omega
  have e1 : ∀ X : GS, X = si (si (si H 105 (30 * r + k) (gi H 113 k)) 106 (31 * r + k) (gi H 114 k)) 107 (30 * r + k) (gi H 115 k) → f_Model_tells H r k = (if gi X 113 k = 3 then f_Model_tells_L94 FU X r k 0 else if gi X 113 k = 4 then gd (0 ≤ wr ((3 * (r : Int)) + (gi X 109 k)) ∧ wr ((3 * (r : Int)) + (gi X 109 k)) < 12) <| wG (si X 101 (wr ((3 * (r : Int)) + (gi X 109 k))).toNat (gi X 110 k)) fun G4 => gd (0 ≤ wr ((3 * (r : Int)) + (gi G4 109 k)) ∧ wr ((3 * (r : Int)) + (gi G4 109 k)) < 12) <| wG (si G4 102 (wr ((3 * (r : Int)) + (gi G4 109 k))).toNat (gi G4 111 k)) fun G5 => gd (0 ≤ wr ((3 * (r : Int)) + (gi G5 109 k)) ∧ wr ((3 * (r : Int)) + (gi G5 109 k)) < 12) <| wG (si G5 103 (wr ((3 * (r : Int)) + (gi G5 109 k))).toNat (gi G5 112 k)) fun G6 => some G6 else if gi X 113 k = 5 then some (si (si X 96 r (gi X 109 k)) 97 r (gi (si X 96 r (gi X 109 k)) 110 k)) else if gi X 113 k = 6 then some (si X 98 r (gi X 109 k)) else if gi X 113 k = 7 then some (si X 99 r (gi X 109 k)) else some X) := by
    intro X hX
    have h114 : gi (si H 105 (30 * r + k) (gi H 113 k)) 114 k = gi H 114 k := gi_ne (by decide)
    have h115 : gi (si (si H 105 (30 * r + k) (gi H 113 k)) 106 (31 * r + k) (gi H 114 k)) 115 k = gi H 115 k := by rw [gi_ne (by decide), gi_ne (by decide)]
    rw [f_Model_tells]
    simp only [hw5, hw6, gd, if_pos gk, if_pos g5, if_pos g6, if_pos gk1, if_pos gr, wG, Int.toNat_natCast, h114, h115, ← hX]
  have hcell : ∀ x j, ¬ (x = 105 ∨ x = 106 ∨ x = 107) → gi (si (si (si H 105 (30 * r + k) (gi H 113 k)) 106 (31 * r + k) (gi H 114 k)) 107 (30 * r + k) (gi H 115 k)) x j = gi H x j := fun x j z => hg3 x j (by omega) (by omega)
  have e2 := e1 _ rfl
  have hMVX := MV_fr (r := r) (v := v) (fun x j z1 z2 => hcell x j (by omega)) hv
  rw [e2]
  generalize si (si (si H 105 (30 * r + k) (gi H 113 k)) 106 (31 * r + k) (gi H 114 k)) 107 (30 * r + k) (gi H 115 k) = X at *
  have x113 := hcell 113 k (by decide)
  have x109 := hcell 109 k (by decide)
  have x110 := hcell 110 k (by decide)
  have x111 := hcell 111 k (by decide)
  have x112 := hcell 112 k (by decide)
  obtain ⟨y1, y2, y3, y4, y5, y6⟩ := hMVX
  obtain ⟨k3, k4, k5, k67⟩ := hg
  rw [x113]
  by_cases s3 : gi H 113 k = 3
  · rw [if_pos s3]
    obtain ⟨H', r1, r2, r3, r4, r5⟩ := tell94 hr hk (a := gi H 109 k) (b := gi H 110 k) (hwi _ _) 4 0 FU X rfl (by unfold FU; omega) x109 x110
    refine ⟨H', r1, hFO.trans r2, ?_, ⟨by rw [r3 _ _ (by decide)]; exact v5, by rw [r3 _ _ (by decide)]; exact v6, by rw [r3 _ _ (by decide)]; exact v7⟩, fun x j z1 z2 z3 z4 => by rw [r3 x j (by omega)]; exact hg3 x j z3 z4⟩
    rw [s3]
    refine ⟨fun s hs => ?_, fun u hu => by rw [r3 _ _ (by decide), r3 _ _ (by decide), r3 _ _ (by decide)]; exact y2 u hu, by rw [r3 _ _ (by decide)]; exact y3, by rw [r3 _ _ (by decide)]; exact y4, by rw [r3 _ _ (by decide)]; exact y5, by rw [r3 _ _ (by decide)]; exact y6⟩
    rw [r5 s (by omega) hs, y1 s hs]
    rfl
  · rw [if_neg s3]
    by_cases s4 : gi H 113 k = 4
    · have h4 := k4 s4
      obtain ⟨⟨q1, q2⟩, q3, q4, q5⟩ := h4
      have q1' : 0 ≤ gi H 109 k := q1
      have q2' : gi H 109 k ≤ 2 := q2
      obtain ⟨u0, hu0⟩ : ∃ u0 : Nat, gi H 109 k = u0 := ⟨(gi H 109 k).toNat, by omega⟩
      have hwu : wr ((3 * (r : Int)) + (u0 : Int)) = ((3 * r + u0 : Nat) : Int) := by rw [wr_of (by omega) (by omega)]; omega
      have gu : (0 : Int) ≤ ((3 * r + u0 : Nat) : Int) ∧ ((3 * r + u0 : Nat) : Int) < 12 := by omega
      have i1 : gi (si X 101 (3 * r + u0) (gi H 110 k)) 109 k = u0 := by rw [gi_ne (by decide), x109, hu0]
      have i2 : gi (si X 101 (3 * r + u0) (gi H 110 k)) 111 k = gi H 111 k := by rw [gi_ne (by decide), x111]
      have i3 : gi (si (si X 101 (3 * r + u0) (gi H 110 k)) 102 (3 * r + u0) (gi H 111 k)) 109 k = u0 := by rw [gi_ne (by decide), i1]
      have i4 : gi (si (si X 101 (3 * r + u0) (gi H 110 k)) 102 (3 * r + u0) (gi H 111 k)) 112 k = gi H 112 k := by rw [gi_ne (by decide), gi_ne (by decide), x112]
      have eg : ∀ x j, ¬ ((101 ≤ x ∧ x ≤ 103) ∧ j = 3 * r + u0) → gi (si (si (si X 101 (3 * r + u0) (gi H 110 k)) 102 (3 * r + u0) (gi H 111 k)) 103 (3 * r + u0) (gi H 112 k)) x j = gi X x j := fun x j z => by rw [gi_si, if_neg (by omega), gi_si, if_neg (by omega), gi_si, if_neg (by omega)]
      refine ⟨si (si (si X 101 (3 * r + u0) (gi H 110 k)) 102 (3 * r + u0) (gi H 111 k)) 103 (3 * r + u0) (gi H 112 k), ?_, hFO.trans (((FO_si (by unfold own; omega)).trans (FO_si (by unfold own; omega))).trans (FO_si (by unfold own; omega))), ?_, ⟨by rw [eg _ _ (by omega)]; exact v5, by rw [eg _ _ (by omega)]; exact v6, by rw [eg _ _ (by omega)]; exact v7⟩, fun x j z1 z2 z3 z4 => by rw [eg x j (by omega)]; exact hg3 x j z3 z4⟩
      · rw [if_pos s4, x109, hu0, hwu, gd, if_pos gu, x110, Int.toNat_natCast]
        show gd (0 ≤ wr ((3 * (r : Int)) + (gi (si X 101 (3 * r + u0) (gi H 110 k)) 109 k)) ∧ wr ((3 * (r : Int)) + (gi (si X 101 (3 * r + u0) (gi H 110 k)) 109 k)) < 12) _ = _
        rw [i1, hwu, gd, if_pos gu, Int.toNat_natCast, i2]
        show gd (0 ≤ wr ((3 * (r : Int)) + (gi (si (si X 101 (3 * r + u0) (gi H 110 k)) 102 (3 * r + u0) (gi H 111 k)) 109 k)) ∧ wr ((3 * (r : Int)) + (gi (si (si X 101 (3 * r + u0) (gi H 110 k)) 102 (3 * r + u0) (gi H 111 k)) 109 k)) < 12) _ = _
        rw [i3, hwu, gd, if_pos gu, Int.toNat_natCast, i4]
        rfl
      · rw [s4]
        refine ⟨fun s hs => by rw [eg _ _ (by omega)]; exact y1 s hs, fun u hu => ?_, by rw [eg _ _ (by omega)]; exact y3, by rw [eg _ _ (by omega)]; exact y4, by rw [eg _ _ (by omega)]; exact y5, by rw [eg _ _ (by omega)]; exact y6⟩
        obtain ⟨b1, b2, b3⟩ := y2 u hu
        show _ = (if (u : Int) = gi H 109 k then gi H 110 k else v.2.1 u) ∧ _ = (if (u : Int) = gi H 109 k then gi H 111 k else v.2.2.1 u) ∧ _ = (if (u : Int) = gi H 109 k then gi H 112 k else v.2.2.2.1 u)
        rw [hu0]
        by_cases z : u = u0
        · rw [if_pos (by omega), if_pos (by omega), if_pos (by omega), z]
          refine ⟨?_, ?_, ?_⟩
          · rw [gi_ne (by decide), gi_ne (by decide), gi_sm, if_pos rfl]; exact hwi _ _
          · rw [gi_ne (by decide), gi_sm, if_pos rfl]; exact hwi _ _
          · rw [gi_sm, if_pos rfl]; exact hwi _ _
        · rw [if_neg (by omega), if_neg (by omega), if_neg (by omega), eg _ _ (by omega), eg _ _ (by omega), eg _ _ (by omega)]
          exact ⟨b1, b2, b3⟩
    · rw [if_neg s4]
      by_cases s5 : gi H 113 k = 5
      · have i1 : gi (si X 96 r (gi H 109 k)) 110 k = gi H 110 k := by rw [gi_ne (by decide), x110]
        have eg : ∀ x j, ¬ ((x = 96 ∨ x = 97) ∧ j = r) → gi (si (si X 96 r (gi H 109 k)) 97 r (gi H 110 k)) x j = gi X x j := fun x j z => by rw [gi_si, if_neg (by omega), gi_si, if_neg (by omega)]
        refine ⟨si (si X 96 r (gi H 109 k)) 97 r (gi H 110 k), by rw [if_pos s5, x109, i1], hFO.trans ((FO_si (by unfold own; omega)).trans (FO_si (by unfold own; omega))), ?_, ⟨by rw [eg _ _ (by omega)]; exact v5, by rw [eg _ _ (by omega)]; exact v6, by rw [eg _ _ (by omega)]; exact v7⟩, fun x j z1 z2 z3 z4 => by rw [eg x j (by omega)]; exact hg3 x j z3 z4⟩
        rw [s5]
        refine ⟨fun s hs => by rw [eg _ _ (by omega)]; exact y1 s hs, fun u hu => by rw [eg _ _ (by omega), eg _ _ (by omega), eg _ _ (by omega)]; exact y2 u hu, ?_, ?_, by rw [eg _ _ (by omega)]; exact y5, by rw [eg _ _ (by omega)]; exact y6⟩
        · rw [gi_ne (by decide), gi_sm, if_pos rfl]; exact hwi _ _
        · rw [gi_sm, if_pos rfl]; exact hwi _ _
      · rw [if_neg s5]
        by_cases s6 : gi H 113 k = 6
        · have eg : ∀ x j, ¬ (x = 98 ∧ j = r) → gi (si X 98 r (gi H 109 k)) x j = gi X x j := fun x j z => by rw [gi_si, if_neg z]
          refine ⟨si X 98 r (gi H 109 k), by rw [if_pos s6, x109], hFO.trans (FO_si (by unfold own; omega)), ?_, ⟨by rw [eg _ _ (by omega)]; exact v5, by rw [eg _ _ (by omega)]; exact v6, by rw [eg _ _ (by omega)]; exact v7⟩, fun x j z1 z2 z3 z4 => by rw [eg x j (by omega)]; exact hg3 x j z3 z4⟩
          rw [s6]
          refine ⟨fun s hs => by rw [eg _ _ (by omega)]; exact y1 s hs, fun u hu => by rw [eg _ _ (by omega), eg _ _ (by omega), eg _ _ (by omega)]; exact y2 u hu, by rw [eg _ _ (by omega)]; exact y3, by rw [eg _ _ (by omega)]; exact y4, ?_, by rw [eg _ _ (by omega)]; exact y6⟩
          rw [gi_sm, if_pos rfl]; exact hwi _ _
        · rw [if_neg s6]
          by_cases s7 : gi H 113 k = 7
          · have eg : ∀ x j, ¬ (x = 99 ∧ j = r) → gi (si X 99 r (gi H 109 k)) x j = gi X x j := fun x j z => by rw [gi_si, if_neg z]
            refine ⟨si X 99 r (gi H 109 k), by rw [if_pos s7, x109], hFO.trans (FO_si (by unfold own; omega)), ?_, ⟨by rw [eg _ _ (by omega)]; exact v5, by rw [eg _ _ (by omega)]; exact v6, by rw [eg _ _ (by omega)]; exact v7⟩, fun x j z1 z2 z3 z4 => by rw [eg x j (by omega)]; exact hg3 x j z3 z4⟩
            rw [s7]
            refine ⟨fun s hs => by rw [eg _ _ (by omega)]; exact y1 s hs, fun u hu => by rw [eg _ _ (by omega), eg _ _ (by omega), eg _ _ (by omega)]; exact y2 u hu, by rw [eg _ _ (by omega)]; exact y3, by rw [eg _ _ (by omega)]; exact y4, by rw [eg _ _ (by omega)]; exact y5, ?_⟩
            rw [gi_sm, if_pos rfl]; exact hwi _ _
          · refine ⟨X, by rw [if_neg s7], hFO, ?_, ⟨v5, v6, v7⟩, fun x j z1 z2 z3 z4 => hg3 x j z3 z4⟩
            unfold eff
            rw [if_neg s3, if_neg s4, if_neg s5, if_neg s6, if_neg s7]
            exact ⟨y1, y2, y3, y4, y5, y6⟩
