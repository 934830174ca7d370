/-! the first heir, lands held of the king, the king's right -/
def lo (f : Nat → Bool) : Nat → Nat → Option Nat
  | 0, _ => none
  | m + 1, i => if f i = true then some i else lo f m (i + 1)
theorem lo_in {f : Nat → Bool} : ∀ (m i q : Nat), lo f m i = some q → i ≤ q ∧ q < i + m
  | 0, i, q, h => by cases h
  | m + 1, i, q, h => by
    unfold lo at h
    split at h
    · have := Option.some.inj h; omega
    · have := lo_in m (i + 1) q h; omega
def hrF (F : Fam) (p : Nat) : Nat → Bool := fun i => decide (0 < (ev F i 0 (tps F p)).1)
theorem first_C {G : GS} {F : Fam} {p : Nat} (hL : LayE G F p) (hN : F.2.2.2 ≤ 32) (hB : gi G 1 7 = F.2.2.2) : ∀ (m i n : Nat), i + m = F.2.2.2 → m < n → f_Descent_firstHeir_L2 G n i = some (oI (lo (hrF F p) m i)) := by
  intro m
  induction m with
  | zero =>
    intro i n h1 h2
    obtain ⟨n', rfl⟩ : ∃ n', n = n' + 1 := ⟨n - 1, by omega⟩
    rw [f_Descent_firstHeir_L2, if_pos (by omega)]
    rfl
  | succ m ih =>
    intro i n h1 h2
    obtain ⟨n', rfl⟩ : ∃ n', n = n' + 1 := ⟨n - 1, by omega⟩
    have hw : wr ((i : Int) + 1) = ((i + 1 : Nat) : Int) := by rw [wr_of (by omega) (by omega)]; omega
    have hc := heir_C hL (q := i) (by omega) (by omega)
    rw [f_Descent_firstHeir_L2, if_neg (by omega), lo]
    unfold hrF
    by_cases c : 0 < (ev F i 0 (tps F p)).1
    · rw [if_neg (fun z => hc.mp z c), if_pos (decide_eq_true c)]
      rfl
    · rw [if_pos (hc.mpr c), if_neg (by rw [decide_eq_false c]; decide), hw]
      exact ih (i + 1) n' (by omega) (by omega)
/-- the reference looks from the last to the first -/
theorem first_M {F : Fam} {p l r : Nat} : ∀ (x n : Nat) (G : GS), x ≤ F.2.2.2 → x < n → Asked G F p l r → ∃ G', Mq G G' ∧ f_Model_isKings_L77 n G p l (oI (lo (hrF F p) (F.2.2.2 - x) x)) ((x : Int) - 1) = (f_Model_gathers G' p l (oI (lo (hrF F p) F.2.2.2 0))).bind fun q1 => gd (0 ≤ (p : Int) ∧ (p : Int) < 32) <| (f_Model_reignOn q1 (gi q1 87 (p : Int).toNat)).bind fun q2 => f_Model_isKings_L127 FU q1 q2 0 0 := by
  intro x
  induction x with
  | zero =>
    intro n G h1 h2 hA
    obtain ⟨n', rfl⟩ : ∃ n', n = n' + 1 := ⟨n - 1, by omega⟩
    refine ⟨G, Mq.rf G, ?_⟩
    rw [f_Model_isKings_L77, if_pos (show ((0 : Nat) : Int) - 1 < 0 by decide)]
    rfl
  | succ x ih =>
    intro n G h1 h2 hA
    obtain ⟨n', rfl⟩ : ∃ n', n = n' + 1 := ⟨n - 1, by omega⟩
    have hN := hA.2.1.1
    obtain ⟨G1, r1, r2, r3⟩ := heir_M hA x
    obtain ⟨G2, u1, u2⟩ := ih n' G1 (by omega) (by omega) ((Mg.of_q r2).ask hA)
    have hw : wr ((x : Int) + (-1)) = (x : Int) - 1 := by rw [wr_of (by omega) (by omega)]; omega
    refine ⟨G2, r2.trans u1, ?_⟩
    rw [show ((x + 1 : Nat) : Int) - 1 = (x : Int) by omega, f_Model_isKings_L77, if_neg (by omega), r1, Option.bind_some, ← u2]
    have e : F.2.2.2 - x = (F.2.2.2 - (x + 1)) + 1 := by omega
    have hr : hrF F p x = decide (0 < (ev F x 0 (tps F p)).1) := rfl
    rw [e, lo, hr]
    by_cases c : 0 < (ev F x 0 (tps F p)).1
    · rw [decide_eq_true c, if_pos (show true = true from rfl)]
      simp only [if_pos c, if_neg (show ¬ (1 : Int) = 0 by decide), f_Model_isKings_L96, hw]
      rfl
    · rw [decide_eq_false c, if_neg (show ¬ (false = true) by decide)]
      simp only [if_neg c, if_true, f_Model_isKings_L96, hw]
theorem holdC_fr {G G' : GS} (hi : ∀ c k, ¬ scr c k → gi G' c k = gi G c k) : ∀ (n : Nat) (l d t b i : Int), f_Seizings_holderAt_L6 G' n l d t b i = f_Seizings_holderAt_L6 G n l d t b i := by
  have h38 := hi 38 6 (by unfold scr; omega)
  have h39 := fun k => hi 39 k (by unfold scr; omega)
  have h40 := fun k => hi 40 k (by unfold scr; omega)
  have h41 := fun k => hi 41 k (by unfold scr; omega)
  have h42 := fun k => hi 42 k (by unfold scr; omega)
  have h44 := fun k => hi 44 k (by unfold scr; omega)
  intro n
  induction n with
  | zero => intros; rfl
  | succ n ih =>
    intro l d t b i
    simp only [f_Seizings_holderAt_L6, f_Seizings_holderAt_L52, f_Seizings_holderAt_L48, f_Seizings_holderAt_L53, f_Seizings_holderAt_L105, f_Seizings_holderAt_L109, ih, h38, h39, h40, h41, h42, h44]
theorem hold_m1 {G : GS} (hS : InvS G) (l t : Int) : ∀ (n : Nat) (i : Int), 0 ≤ i → i ≤ gi G 38 6 → gi G 38 6 - i < n → f_Seizings_holderAt_L6 G n l (-1) t (-1) i = some (-2) := by
  intro n
  induction n with
  | zero => intro i q1 q2 q3; omega
  | succ n ih =>
    intro i q1 q2 q3
    have s1 := hS.2.1
    by_cases c : gi G 38 6 ≤ i
    · rw [f_Seizings_holderAt_L6, if_pos c, if_pos rfl]
    · have se := hS.2.2 i.toNat (by omega)
      unfold SOKe at se
      have hc : holdC G l (-1) t (-1) i = false := by
        unfold holdC
        exact decide_eq_false (fun z => by omega)
      rw [hold_F s1 q1 (by omega) (Or.inl rfl), hc, if_neg (by decide)]
      exact ih (i + 1) (by omega) (by omega) (by omega)
theorem held_L {G0 G : GS} {F : Fam} {p l r : Nat} (hA : Asked G F p l r) (hi : ∀ c k, ¬ scr c k → gi G c k = gi G0 c k) : ∀ (n x : Nat), x ≤ 12 → 12 - x < n → ∃ b : Int, (b = 0 ∨ b = 1) ∧ f_Hall_heldOfKing_L2 G0 n p x = some b ∧ f_Model_isKings_L2 n G p l x = if b = 1 then some (1, G) else f_Model_isKings_L77 FU G p l (-1) (wr (gi G 81 1 - 1)) := by
  obtain ⟨a1, a2, a3, a4, a5, a6⟩ := askR hA
  have hI := hA.1
  obtain ⟨e0, e1, e10, e16, e43, e50, e52, e66⟩ := eqS_in hI.1
  have hS := hI.2.2.2.2.1
  have hday := hA.2.2.2.2.2.2.2.1
  have l1 := hI.2.2.1.2.1
  have e87 := hI.1.1 (87, 7) (by decide) p
  have e91 := hI.1.1 (91, 11) (by decide)
  have e92 := hI.1.1 (92, 12) (by decide)
  simp only at e87 e91 e92
  have g95 : gi G0 9 5 = gi G 9 5 := (hi 9 5 (by unfold scr; omega)).symm
  have g12 : ∀ k, gi G0 12 k = gi G 12 k := fun k => (hi 12 k (by unfold scr; omega)).symm
  have g11 : ∀ k, gi G0 11 k = gi G 11 k := fun k => (hi 11 k (by unfold scr; omega)).symm
  have g7 : gi G0 7 p = gi G 7 p := (hi 7 p (by unfold scr; omega)).symm
  have g14 : gi G0 0 14 = gi G 0 14 := (hi 0 14 (by unfold scr; omega)).symm
  have gp32 : (0 : Int) ≤ (p : Int) ∧ (p : Int) < 32 := by omega
  have wd : wr (gi G 7 p - 1) = gi G 7 p - 1 := wr_of (by omega) (by omega)
  intro n
  induction n with
  | zero => intro x h1 h2; omega
  | succ n ih =>
    intro x h1 h2
    have hw : wr ((x : Int) + 1) = ((x + 1 : Nat) : Int) := by rw [wr_of (by omega) (by omega)]; omega
    by_cases c : gi G 9 5 ≤ (x : Int)
    · refine ⟨0, Or.inl rfl, ?_, ?_⟩
      · rw [f_Hall_heldOfKing_L2, g95, if_pos c]
      · rw [f_Model_isKings_L2, e10, if_pos c, if_neg (by decide)]
    · obtain ⟨b, b1, b2, b3⟩ := ih (x + 1) (by omega) (by omega)
      have g12' : (0 : Int) ≤ (x : Int) ∧ (x : Int) < 12 := by omega
      have nC : f_Hall_heldOfKing_L77 G0 (f_Hall_heldOfKing_L2 G0 n) p x = some b := by rw [f_Hall_heldOfKing_L77, hw]; exact b2
      have nM : f_Model_isKings_L61 (f_Model_isKings_L2 n) G p l x = if b = 1 then some (1, G) else f_Model_isKings_L77 FU G p l (-1) (wr (gi G 81 1 - 1)) := by rw [f_Model_isKings_L61, hw]; exact b3
      by_cases k : gi G 12 x = -1 ∧ gi G 11 x = 0
      · have eC : f_Hall_heldOfKing_L2 G0 (n + 1) p x = (f_Seizings_holderAt G0 x (gi G 7 p - 1) (gi G 0 14)).bind fun q1 => if q1 = (p : Int) then some 1 else some b := by
          simp only [f_Hall_heldOfKing_L2, g95, if_neg c, gd, if_pos g12', Int.toNat_natCast, g12, if_pos k.1, g11, if_pos k.2, f_Hall_heldOfKing_L43, if_neg (show ¬ (1 : Int) = 0 by decide), if_pos gp32, g7, wd, g14, nC]
        by_cases d : gi G 7 p ≤ 0
        · have hd : gi G 7 p - 1 = -1 := by omega
          have hm : f_Seizings_holderAt G0 x (-1) (gi G 0 14) = some (-2) := by
            unfold f_Seizings_holderAt
            rw [← holdC_fr hi]
            exact hold_m1 hS _ _ FU 0 (Int.le_refl _) hS.1 (by have := hS.2.1; unfold FU; omega)
          refine ⟨b, b1, ?_, ?_⟩
          · rw [eC, hd, hm, Option.bind_some, if_neg (by omega)]
          · rw [f_Model_isKings_L2, e10, if_neg c, gd, if_pos gp32, Int.toNat_natCast, e87, if_pos d]
            exact nM
        · obtain ⟨v, v1, v2⟩ := hold_eq hS.2.1 e66 (hI.1.1 (123, 39) (by decide)) (hI.1.1 (124, 40) (by decide)) (hI.1.1 (125, 41) (by decide)) (hI.1.1 (126, 42) (by decide)) (hI.1.1 (128, 44) (by decide)) FU (x : Int) (gi G 7 p - 1) (gi G 0 14) (-1) 0 (Int.le_refl _) hS.1 (Or.inl rfl) (by have := hS.2.1; unfold FU; omega)
          have hm : f_Seizings_holderAt G0 x (gi G 7 p - 1) (gi G 0 14) = some v := by
            unfold f_Seizings_holderAt
            rw [← holdC_fr hi]
            exact v1
          have hm2 : f_Model_holderOf G x (gi G 7 p - 1) (gi G 0 14) = some v := v2
          have eM : f_Model_isKings_L2 (n + 1) G p l x = if v = (p : Int) then some (1, G) else f_Model_isKings_L61 (f_Model_isKings_L2 n) G p l x := by
            simp only [f_Model_isKings_L2, e10, if_neg c, gd, if_pos gp32, Int.toNat_natCast, e87, if_neg d, if_pos g12', e92, if_pos k.1, e91, if_pos k.2, wd, e0, hm2, Option.bind_some]
          rw [eC, eM, hm, Option.bind_some]
          by_cases y : v = (p : Int)
          · exact ⟨1, Or.inr rfl, by rw [if_pos y], by rw [if_pos y, if_pos rfl]⟩
          · exact ⟨b, b1, by rw [if_neg y], by rw [if_neg y]; exact nM⟩
      · refine ⟨b, b1, ?_, ?_⟩
        · rw [f_Hall_heldOfKing_L2, g95, if_neg c, gd, if_pos g12', Int.toNat_natCast, g12]
          have z0 : f_Hall_heldOfKing_L42 G0 (f_Hall_heldOfKing_L2 G0 n) p x = some b := by
            rw [f_Hall_heldOfKing_L42, f_Hall_heldOfKing_L43, if_pos rfl]; exact nC
          by_cases y : gi G 12 x = -1
          · rw [if_pos y, gd, if_pos g12', g11, if_neg (fun z => k ⟨y, z⟩)]
            exact z0
          · rw [if_neg y]
            exact z0
        · rw [f_Model_isKings_L2, e10, if_neg c, gd, if_pos gp32, Int.toNat_natCast, Int.toNat_natCast, e87, gd, if_pos g12', e92]
          by_cases d : gi G 7 p ≤ 0
          · rw [if_pos d]; exact nM
          · rw [if_neg d]
            by_cases y : gi G 12 x = -1
            · rw [if_pos y, gd, if_pos g12', e91, if_neg (fun z => k ⟨y, z⟩)]
              exact nM
            · rw [if_neg y]
              exact nM
