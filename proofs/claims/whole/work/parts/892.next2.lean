/-! the reference's next token, whole -/
def isW (b : Int) : Bool := decide (b = 32 ∨ b = 10)
def mTok (f : Int) (B : Nat → Int) (L p : Nat) : Int :=
  if isL (B p) = true then wTok f (wkF B p (tE B L p) 36 0) else if isD (B p) = true then (if 6 ≤ tE B L p - p then 1 else 2)
  else if B p = 59 then 59 else if f = 0 then 1 else if isS (B p) = true then B p else 1
/-- what stands in the reference's cells once a token has been taken up from p on -/
def NX (G : GS) (f : Int) (B : Nat → Int) (L p : Nat) : Prop := gi G 81 46 = (rN isW B L p : Int) ∧ (rN isW B L p < L → gi G 81 45 = mTok f B L (rN isW B L p) ∧ gi G 81 44 = (tE B L (rN isW B L p) : Int) ∧ (mTok f B L (rN isW B L p) = 2 → isD (B (rN isW B L p)) = true → gi G 81 47 = tV B L (rN isW B L p))) ∧ (¬ rN isW B L p < L → gi G 81 45 = 0 ∧ gi G 81 44 = (L : Int))
theorem nx0 {B : Nat → Int} {L : Nat} : ∀ (m p n : Nat) (G : GS), TxM G B L → L - p ≤ m → m < n → p ≤ L → gi G 81 44 = p → ∃ G', f_Model_next0_L0 n G = some G' ∧ Mx G G' ∧ NX G' (gi G 81 53) B L p := by
  intro m p
  induction m generalizing p with
  | zero =>
    intro n G hT a1 a2 a3 h44
    obtain ⟨n', rfl⟩ : ∃ n', n = n' + 1 := ⟨n - 1, by omega⟩
    have hs : seeV B L p = -1 := by unfold seeV; rw [if_pos (by omega)]
    have hq : rN isW B L p = p := by rw [rN_eq, if_neg (by omega)]
    have h44' : gi (si G 81 46 (p : Int)) 81 44 = (p : Int) := by rw [gi_si, if_neg (by omega)]; exact h44
    have hL := hT.2.1
    refine ⟨si (si G 81 46 (p : Int)) 81 45 0, ?_, (Mx_si (by omega)).trans (Mx_si (by omega)), ?_, ?_, fun _ => ⟨?_, ?_⟩⟩
    · rw [f_Model_next0_L0, h44, see_M hT, Option.bind_some, hs, if_neg (by decide), Option.bind_some, if_neg (by decide)]
      simp only [wG, h44', see_M (hT.mx (Mx_si (show 44 ≤ 46 ∧ 46 ≤ 47 by decide))), Option.bind_some, hs, if_true]
    · rw [gi_si, if_neg (by omega), gi_si, if_pos ⟨rfl, rfl⟩, hq]; exact wr_of (by omega) (by omega)
    · intro z; rw [hq] at z; omega
    · rw [gi_si, if_pos ⟨rfl, rfl⟩]; exact wr_zero
    · rw [gi_si, if_neg (by omega), h44']; omega
  | succ m ih =>
    intro n G hT a1 a2 a3 h44
    by_cases cp : p < L
    · obtain ⟨n', rfl⟩ : ∃ n', n = n' + 1 := ⟨n - 1, by omega⟩
      have hL := hT.2.1
      have hB := hT.2.2.2 p
      by_cases w : isW (B p) = true
      · have hw := of_decide_eq_true w
        have hs : seeV B L p = B p := by unfold seeV; rw [if_neg (by omega), if_neg (by omega)]
        have hq : rN isW B L p = rN isW B L (p + 1) := by rw [rN_eq isW B L p, if_pos cp, if_pos w]
        obtain ⟨G', r1, r2, r3⟩ := ih (p + 1) n' (si G 81 44 ((p : Int) + 1)) (hT.mx (Mx_si (by omega))) (by omega) (by omega) (by omega) (by rw [gi_si, if_pos ⟨rfl, rfl⟩, wr_of (by omega) (by omega)]; omega)
        refine ⟨G', ?_, (Mx_si (by omega)).trans r2, ?_⟩
        · rw [f_Model_next0_L0, h44, see_M hT, Option.bind_some, hs, f_Model_next0_L26, h44]
          by_cases y : B p = 32
          · rw [if_pos y]; exact r1
          · rw [if_neg y, Option.bind_some, if_pos (by omega)]; exact r1
        · unfold NX at r3 ⊢
          rw [hq]
          rw [gi_si, if_neg (by omega)] at r3
          exact r3
      · have hw := of_decide_eq_false (Bool.eq_false_iff.mpr w)
        have hq : rN isW B L p = p := by rw [rN_eq, if_pos cp, if_neg w]
        have hs : seeV B L p = if B p < 0 then B p + 256 else B p := by unfold seeV; rw [if_neg (by omega)]
        have hne : ¬ seeV B L p = 32 ∧ ¬ seeV B L p = 10 ∧ ¬ seeV B L p = -1 := by rw [hs]; split <;> omega
        have h44' : gi (si G 81 46 (p : Int)) 81 44 = (p : Int) := by rw [gi_si, if_neg (by omega)]; exact h44
        have h46' : gi (si G 81 46 (p : Int)) 81 46 = (p : Int) := by rw [gi_si, if_pos ⟨rfl, rfl⟩]; exact wr_of (by omega) (by omega)
        have h53' : gi (si G 81 46 (p : Int)) 81 53 = gi G 81 53 := by rw [gi_si, if_neg (by omega)]
        have m1 : Mx G (si G 81 46 (p : Int)) := Mx_si (by omega)
        have hT1 := hT.mx m1
        have e1 : f_Model_next0_L0 (n' + 1) G = (f_Model_isLetter (si G 81 46 (p : Int)) (seeV B L p)).bind fun q4 => if q4 = 0 then (f_Model_isDigit (si G 81 46 (p : Int)) (seeV B L p)).bind fun q5 => (if q5 = 0 then (if seeV B L p = 59 then f_Model_next0_L306 (si (si G 81 46 (p : Int)) 81 44 ((p : Int) + 1)) (seeV B L p) else if gi G 81 53 = 0 then f_Model_next0_L310 (si (si G 81 46 (p : Int)) 81 44 ((p : Int) + 1)) (seeV B L p) else if isS (seeV B L p) = true then f_Model_next0_L306 (si (si G 81 46 (p : Int)) 81 44 ((p : Int) + 1)) (seeV B L p) else f_Model_next0_L310 (si (si G 81 46 (p : Int)) 81 44 ((p : Int) + 1)) (seeV B L p)) else f_Model_next0_L140 FU (si (si G 81 46 (p : Int)) 81 47 0)) else f_Model_next0_L76 FU (si G 81 46 (p : Int)) := by
          have h53'' : gi (si (si G 81 46 (p : Int)) 81 44 ((p : Int) + 1)) 81 53 = gi G 81 53 := by rw [gi_si, if_neg (by omega)]; exact h53'
          rw [f_Model_next0_L0, h44, see_M hT, Option.bind_some, if_neg hne.1, Option.bind_some, if_neg hne.2.1]
          simp only [wG, h44', see_M hT1, Option.bind_some, if_neg hne.2.2, h53'', isL_M, isD_M]
          by_cases l1 : isL (seeV B L p) = true
          · simp only [if_pos l1, if_neg (show ¬ (1 : Int) = 0 by decide)]
          · simp only [if_neg l1, if_true]
            by_cases l2 : isD (seeV B L p) = true
            · simp only [if_pos l2, if_neg (show ¬ (1 : Int) = 0 by decide)]
            · simp only [if_neg l2, if_true]
              by_cases l3 : seeV B L p = 59
              · simp only [if_pos l3]
              · simp only [if_neg l3]
                by_cases l4 : gi G 81 53 = 0
                · simp only [if_pos l4]
                · simp only [if_neg l4]
                  generalize seeV B L p = v at *
                  by_cases l5 : isS v = true
                  · have := of_decide_eq_true l5
                    rw [if_pos l5]
                    have h : v = 43 ∨ v = 45 ∨ v = 42 ∨ v = 47 ∨ v = 40 ∨ v = 41 ∨ v = 60 ∨ v = 61 ∨ v = 62 := by omega
                    rcases h with rfl | rfl | rfl | rfl | rfl | rfl | rfl | rfl | rfl <;> simp
                  · have := of_decide_eq_false (Bool.eq_false_iff.mpr l5)
                    rw [if_neg l5, if_neg (by omega), if_neg (by omega), if_neg (by omega), if_neg (by omega), if_neg (by omega), if_neg (by omega), if_neg (by omega), if_neg (by omega), if_neg (by omega)]
        rw [e1, isL_M, Option.bind_some, isD_M, isL_see hT.2.2.2, isD_see hT.2.2.2, decide_eq_true cp, Bool.true_and, Bool.true_and]
        unfold NX
        rw [hq]
        by_cases l1 : isL (B p) = true
        · have ht : tE B L p = rN isL B L (p + 1) := by unfold tE; rw [if_pos l1]
          have ht2 : rN isL B L p = rN isL B L (p + 1) := by rw [rN_eq isL B L p, if_pos cp, if_pos l1]
          have hb := tE_b (B := B) cp
          obtain ⟨G', r1, r2, r3, r4, r5⟩ := nx76 (p := p) L p FU (si G 81 46 (p : Int)) hT1 (by omega) (by unfold FU; omega) a3 h46' h44' (by omega)
          rw [ht2, ← ht] at r3 r5
          refine ⟨G', ?_, m1.trans r2, r4, fun _ => ⟨?_, r3, fun _ z => ?_⟩, fun z => absurd cp z⟩
          · rw [l1, if_pos rfl, if_neg (by decide)]; exact r1
          · rw [r5, h53']; unfold mTok; rw [if_pos l1]
          · exfalso
            have z1 := of_decide_eq_true l1
            have z2 := of_decide_eq_true z
            omega
        · have l1' := Bool.eq_false_iff.mpr l1
          rw [l1', if_pos (show (if (false = true) then (1 : Int) else 0) = 0 from rfl), Option.bind_some]
          by_cases l2 : isD (B p) = true
          · have ht : tE B L p = rN isD B L (p + 1) := by unfold tE; rw [if_neg l1, if_pos l2]
            have ht2 : rN isD B L p = rN isD B L (p + 1) := by rw [rN_eq isD B L p, if_pos cp, if_pos l2]
            obtain ⟨G', r1, r2, r3, r4, r5, r6⟩ := nx140 (p := p) L p FU (si (si G 81 46 (p : Int)) 81 47 0) 0 (hT1.mx (Mx_si (by omega))) (by omega) (by unfold FU; omega) a3 (Nat.le_refl _) (by rw [gi_si, if_neg (by omega)]; exact h46') (by rw [gi_si, if_neg (by omega)]; exact h44') (by rw [gi_si, if_pos ⟨rfl, rfl⟩]; exact wr_zero)
            rw [ht2, ← ht] at r3 r5 r6
            have hm : mTok (gi G 81 53) B L p = if 6 ≤ tE B L p - p then 1 else 2 := by unfold mTok; rw [if_neg l1, if_pos l2]
            refine ⟨G', ?_, m1.trans ((Mx_si (by omega)).trans r2), r4, fun _ => ⟨by rw [hm]; exact r5, r3, fun z _ => ?_⟩, fun z => absurd cp z⟩
            · rw [l2, if_pos rfl, if_neg (by decide)]; exact r1
            · rw [hm] at z
              have h6 : ¬ 6 ≤ tE B L p - p := fun y => by rw [if_pos y] at z; cases z
              rw [r6 (by omega)]
              unfold tV
              rw [if_pos l2, if_neg h6]
          · have l2' := Bool.eq_false_iff.mpr l2
            have ht : tE B L p = p + 1 := by unfold tE; rw [if_neg l1, if_neg l2]
            rw [l2', if_pos (show (if (false = true) then (1 : Int) else 0) = 0 from rfl)]
            have fin : ∀ v : Int, wr v = v → v = mTok (gi G 81 53) B L p → ∃ G', some (si (si (si G 81 46 (p : Int)) 81 44 ((p : Int) + 1)) 81 45 v) = some G' ∧ Mx G G' ∧ gi G' 81 46 = (p : Int) ∧ (p < L → gi G' 81 45 = mTok (gi G 81 53) B L p ∧ gi G' 81 44 = (tE B L p : Int) ∧ (mTok (gi G 81 53) B L p = 2 → false = true → gi G' 81 47 = tV B L p)) ∧ (¬ p < L → gi G' 81 45 = 0 ∧ gi G' 81 44 = (L : Int)) := fun v hv hm => by
              refine ⟨_, rfl, m1.trans ((Mx_si (by omega)).trans (Mx_si (by omega))), ?_, fun _ => ⟨?_, ?_, fun _ z => by cases z⟩, fun z => absurd cp z⟩
              · rw [gi_si, if_neg (by omega), gi_si, if_neg (by omega)]; exact h46'
              · rw [gi_si, if_pos ⟨rfl, rfl⟩, hv]; exact hm
              · rw [gi_si, if_neg (by omega), gi_si, if_pos ⟨rfl, rfl⟩, ht, wr_of (by omega) (by omega)]; omega
            have hmt : mTok (gi G 81 53) B L p = if B p = 59 then 59 else if gi G 81 53 = 0 then 1 else if isS (B p) = true then B p else 1 := by unfold mTok; rw [if_neg l1, if_neg l2]
            have hS : isS (seeV B L p) = isS (B p) := by
              rw [hs]
              unfold isS
              split
              · rw [decide_eq_decide]; omega
              · rfl
            have h59 : seeV B L p = 59 ↔ B p = 59 := by rw [hs]; split <;> omega
            rw [hS]
            by_cases l3 : B p = 59
            · rw [if_pos (h59.mpr l3), h59.mpr l3, f_Model_next0_L306, f_Model_next0_L311, if_neg (by decide), f_Model_next0_L322]
              exact fin 59 (by decide) (by rw [hmt, if_pos l3])
            · rw [if_neg (fun z => l3 (h59.mp z))]
              by_cases l4 : gi G 81 53 = 0
              · rw [if_pos l4, f_Model_next0_L310, f_Model_next0_L311, if_pos rfl, f_Model_next0_L322]
                exact fin 1 (by decide) (by rw [hmt, if_neg l3, if_pos l4])
              · rw [if_neg l4]
                by_cases l5 : isS (B p) = true
                · have hb2 := of_decide_eq_true l5
                  have hsv : seeV B L p = B p := by rw [hs, if_neg (by omega)]
                  rw [if_pos l5, hsv, f_Model_next0_L306, f_Model_next0_L311, if_neg (by decide), f_Model_next0_L322]
                  exact fin (B p) (wr_of (by omega) (by omega)) (by rw [hmt, if_neg l3, if_neg l4, if_pos l5])
                · rw [if_neg l5, f_Model_next0_L310, f_Model_next0_L311, if_pos rfl, f_Model_next0_L322]
                  exact fin 1 (by decide) (by rw [hmt, if_neg l3, if_neg l4, if_neg l5])
    · exact ih p n G hT (by omega) (by omega) a3 h44
