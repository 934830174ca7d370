/-! juries: the reference -/
theorem hF_src {w : Nat → Int} {p : Nat → Bool} {l : Nat} : ∀ n, hF w p l n ≠ -2 → ∃ a, a < n ∧ p a = false ∧ w (12 * a + l) = hF w p l n := by
  intro n
  induction n with
  | zero => intro h; exact absurd rfl h
  | succ n ih =>
    intro h
    by_cases c : p n = true ∨ w (12 * n + l) = -2
    · have e : hF w p l (n + 1) = hF w p l n := by show (if p n = true ∨ w (12 * n + l) = -2 then hF w p l n else w (12 * n + l)) = _; rw [if_pos c]
      rw [e] at h ⊢
      obtain ⟨a, h1, h2⟩ := ih h
      exact ⟨a, by omega, h2⟩
    · have e : hF w p l (n + 1) = w (12 * n + l) := by show (if p n = true ∨ w (12 * n + l) = -2 then hF w p l n else w (12 * n + l)) = _; rw [if_neg c]
      rw [e]
      exact ⟨n, by omega, by cases h : p n <;> simp_all, rfl⟩
theorem qL44 {k24 : GS → Int → Int → Option (Int × GS)} {D : Int} {j N : Nat} (hj : j < 10) (hN : N ≤ 12) {w : Nat → Int} (hWN : ∀ l, N ≤ l → l < 12 → w (12 * j + l) = -2) : ∀ (n : Nat) (G : GS) (l : Nat), l ≤ N → N - l < n → gi G 81 10 = N → (∀ k, gi G 135 k = w k) → ∃ G1, (∀ c k, c ≠ 136 → gi G1 c k = gi G c k) ∧ (∀ c k, gp G1 c k = gp G c k) ∧ (((∃ i, l ≤ i ∧ i < N ∧ w (12 * j + i) ≠ -2 ∧ gi G 136 i ≠ -2 ∧ gi G 136 i ≠ w (12 * j + i)) ∧ f_Model_isQuarrel_L44 k24 n G D j l = some (1, G1)) ∨ ((∀ i, l ≤ i → i < N → w (12 * j + i) ≠ -2 → gi G 136 i = -2 ∨ gi G 136 i = w (12 * j + i)) ∧ f_Model_isQuarrel_L44 k24 n G D j l = k24 G1 D ((j + 1 : Nat) : Int) ∧ ∀ i, i < 12 → gi G1 136 i = if i < l ∨ w (12 * j + i) = -2 then gi G 136 i else w (12 * j + i))) := by
  intro n
  induction n with
  | zero => intro G l q1 q2; omega
  | succ n ih =>
    intro G l q1 q2 hn hw
    by_cases c1 : (N : Int) ≤ l
    · have hwj : wr ((j : Int) + 1) = ((j + 1 : Nat) : Int) := by rw [wr_of (by omega) (by omega)]; omega
      refine ⟨G, fun _ _ _ => rfl, fun _ _ => rfl, Or.inr ⟨fun i a b => by omega, ?_, fun i hi => ?_⟩⟩
      · simp only [f_Model_isQuarrel_L44, hn, if_pos c1, f_Model_isQuarrel_L113, hwj]
      · by_cases z : i < l
        · rw [if_pos (Or.inl z)]
        · rw [if_pos (Or.inr (hWN i (by omega) hi))]
    · have hw1 : wr (12 * (j : Int) + l) = ((12 * j + l : Nat) : Int) := by rw [wr_of (by omega) (by omega)]; omega
      have hwl : wr ((l : Int) + 1) = ((l + 1 : Nat) : Int) := by rw [wr_of (by omega) (by omega)]; omega
      have g1 : (0 : Int) ≤ ((12 * j + l : Nat) : Int) ∧ ((12 * j + l : Nat) : Int) < 120 := by omega
      have g2 : (0 : Int) ≤ (l : Int) ∧ (l : Int) < 12 := by omega
      by_cases d1 : w (12 * j + l) = -2
      · obtain ⟨G1, r1, r2, r3⟩ := ih G (l + 1) (by omega) (by omega) hn hw
        have e : f_Model_isQuarrel_L44 k24 (n + 1) G D j l = f_Model_isQuarrel_L44 k24 n G D j ((l + 1 : Nat) : Int) := by
          simp only [f_Model_isQuarrel_L44, hn, if_neg c1, hw1, gd, if_pos g1, Int.toNat_natCast, hw, if_pos d1, f_Model_isQuarrel_L107, hwl]
        refine ⟨G1, r1, r2, ?_⟩
        rcases r3 with ⟨⟨i, a1, a2⟩, a3⟩ | ⟨a1, a2, a3⟩
        · exact Or.inl ⟨⟨i, by omega, a2⟩, e.trans a3⟩
        · refine Or.inr ⟨fun i b1 b2 b3 => a1 i (by
            by_cases z : i = l
            · rw [z] at b3; exact absurd d1 b3
            · omega) b2 b3, e.trans a2, fun i hi => ?_⟩
          rw [a3 i hi]
          by_cases z : i = l
          · subst z; rw [if_pos (Or.inr d1), if_pos (Or.inr d1)]
          · by_cases y : i < l ∨ w (12 * j + i) = -2
            · rw [if_pos y, if_pos (by omega)]
            · rw [if_neg y, if_neg (by omega)]
      · by_cases d2 : gi G 136 l = -2 ∨ gi G 136 l = w (12 * j + l)
        · have hwv : wr (w (12 * j + l)) = w (12 * j + l) := by rw [← hw]; exact wr_gi _ _ _
          have v1 : gi (si G 136 l (w (12 * j + l))) 136 l = w (12 * j + l) := by rw [gi_si, if_pos ⟨rfl, rfl⟩]; exact hwv
          have v2 : ∀ c i, ¬ (c = 136 ∧ i = l) → gi (si G 136 l (w (12 * j + l))) c i = gi G c i := fun c i q => by rw [gi_si, if_neg q]
          have v3 : ∀ c i, gp (si G 136 l (w (12 * j + l))) c i = gp G c i := fun _ _ => rfl
          have e : f_Model_isQuarrel_L44 k24 (n + 1) G D j l = f_Model_isQuarrel_L44 k24 n (si G 136 l (w (12 * j + l))) D j ((l + 1 : Nat) : Int) := by
            rcases d2 with d | d
            · simp only [f_Model_isQuarrel_L44, hn, if_neg c1, hw1, gd, if_pos g1, if_pos g2, Int.toNat_natCast, hw, if_neg d1, if_pos d, f_Model_isQuarrel_L99, wG, f_Model_isQuarrel_L107, hwl]
            · have d' : ¬ gi G 136 l = -2 := by rw [d]; exact d1
              simp only [f_Model_isQuarrel_L44, hn, if_neg c1, hw1, gd, if_pos g1, if_pos g2, Int.toNat_natCast, hw, if_neg d1, if_neg d', if_pos d, f_Model_isQuarrel_L99, wG, f_Model_isQuarrel_L107, hwl]
          generalize si G 136 l (w (12 * j + l)) = G' at *
          obtain ⟨G1, r1, r2, r3⟩ := ih G' (l + 1) (by omega) (by omega) (by rw [v2 81 10 (by omega)]; exact hn) (fun k => by rw [v2 135 k (by omega)]; exact hw k)
          refine ⟨G1, fun c k q => (r1 c k q).trans (v2 c k (by omega)), fun c k => (r2 c k).trans (v3 c k), ?_⟩
          rcases r3 with ⟨⟨i, a1, a2, a4, a5, a6⟩, a3⟩ | ⟨a1, a2, a3⟩
          · rw [v2 136 i (by omega)] at a5 a6
            exact Or.inl ⟨⟨i, by omega, a2, a4, a5, a6⟩, e.trans a3⟩
          · refine Or.inr ⟨fun i b1 b2 b3 => ?_, e.trans a2, fun i hi => ?_⟩
            · by_cases z : i = l
              · rw [z]; exact d2
              · have := a1 i (by omega) b2 b3
                rw [v2 136 i (by omega)] at this
                exact this
            · rw [a3 i hi]
              by_cases z : i = l
              · subst z; rw [if_pos (by omega), if_neg (by omega), v1]
              · rw [v2 136 i (by omega)]
                by_cases y : i < l ∨ w (12 * j + i) = -2
                · rw [if_pos y, if_pos (by omega)]
                · rw [if_neg y, if_neg (by omega)]
        · refine ⟨G, fun _ _ _ => rfl, fun _ _ => rfl, Or.inl ⟨⟨l, by omega, by omega, d1, by omega, by omega⟩, ?_⟩⟩
          simp only [f_Model_isQuarrel_L44, hn, if_neg c1, hw1, gd, if_pos g1, if_pos g2, Int.toNat_natCast, hw, if_neg d1, if_neg (show ¬ gi G 136 l = -2 by omega), if_neg (show ¬ gi G 136 l = w (12 * j + l) by omega)]
theorem upW_add (h : Nat → Int) : ∀ (a b : Nat) (m : Int), upW h (a + b) m = upW h b (upW h a m)
  | 0, b, m => by rw [Nat.zero_add]; rfl
  | a + 1, b, m => by
    by_cases c : m < 0
    · rw [upW_neg c, upW_neg c, upW_neg c]
    · rw [show a + 1 + b = a + b + 1 by omega, upW_pos (by omega), upW_pos (by omega)]
      exact upW_add h a b _
/-- more things than places (as kit/laws/COUNTS.to-paste gives it) -/
theorem fb_holes : ∀ (m n : Nat) (f : Nat → Nat), (∀ i, i < n → f i < m) → (∀ i j, i < j → j < n → f i ≠ f j) → n ≤ m := by
  intro m
  induction m with
  | zero =>
    intro n f h1 _
    rcases Nat.eq_zero_or_pos n with h | h
    · omega
    · exact absurd (h1 0 h) (Nat.not_lt_zero _)
  | succ m ih =>
    intro n f h1 h2
    by_cases hx : ∃ i, i < n ∧ f i = m
    · obtain ⟨a, ha, hfa⟩ := hx
      have hg := ih (n - 1) (fun i => if i < a then f i else f (i + 1)) (by
        intro i hi
        by_cases q : i < a
        · simp only [if_pos q]
          have b1 := h1 i (by omega)
          have b2 := h2 i a q ha
          omega
        · simp only [if_neg q]
          have b1 := h1 (i + 1) (by omega)
          have b2 := h2 a (i + 1) (by omega) (by omega)
          omega) (by
        intro i j hij hj
        by_cases q : i < a
        · by_cases r : j < a
          · simp only [if_pos q, if_pos r]
            exact h2 i j hij (by omega)
          · simp only [if_pos q, if_neg r]
            exact h2 i (j + 1) (by omega) (by omega)
        · have r : ¬ j < a := by omega
          simp only [if_neg q, if_neg r]
          exact h2 (i + 1) (j + 1) (by omega) (by omega))
      omega
    · have hg := ih n f (fun i hi => by
        have b1 := h1 i hi
        have b2 : f i ≠ m := fun e => hx ⟨i, hi, e⟩
        omega) h2
      omega
theorem fb_twice {m n : Nat} {f : Nat → Nat} (h : ∀ i, i < n → f i < m) (hm : m < n) : ∃ i j, i < j ∧ j < n ∧ f i = f j := by
  refine Classical.byContradiction fun hx => ?_
  have := fb_holes m n f h (fun i j hij hj e => hx ⟨i, j, hij, hj, e⟩)
  omega
theorem ring13 {h : Nat → Int} (hr : ∀ i, i < 12 → h i = -2 ∨ (-1 ≤ h i ∧ h i < 12)) {l : Nat} (hl : l < 12) (hp : 0 ≤ upW h 12 (l : Int)) : 0 ≤ upW h 13 (l : Int) := by
  have pos : ∀ i, i ≤ 12 → 0 ≤ upW h i (l : Int) := fun i hi => by
    by_cases c : upW h i (l : Int) < 0
    · have e := upW_add h i (12 - i) (l : Int)
      rw [show i + (12 - i) = 12 by omega, upW_neg c] at e
      omega
    · omega
  have rng : ∀ i, i ≤ 12 → upW h i (l : Int) < 12 := fun i hi => by
    have := upW_rng hr i (l : Int) (by omega)
    have := pos i hi
    omega
  obtain ⟨i, j, hij, hj, e⟩ := fb_twice (m := 12) (n := 13) (f := fun i => (upW h i (l : Int)).toNat) (fun i hi => by have := rng i (by omega); have := pos i (by omega); show (upW h i (l : Int)).toNat < 12; omega) (by decide)
  have e' : upW h i (l : Int) = upW h j (l : Int) := by
    have := pos i (by omega); have := pos j (by omega)
    have e2 : (upW h i (l : Int)).toNat = (upW h j (l : Int)).toNat := e
    omega
  have e1 := upW_add h j (13 - j) (l : Int)
  have e2 := upW_add h i (13 - j) (l : Int)
  rw [show j + (13 - j) = 13 by omega] at e1
  rw [e1, ← e', ← e2]
  exact pos _ (by omega)
theorem qL139 {k121 : GS → Int → Option (Int × GS)} {G : GS} {h : Nat → Int} (hh : ∀ i, i < 12 → gi G 136 i = h i) (hr : ∀ i, i < 12 → h i = -2 ∨ (-1 ≤ h i ∧ h i < 12)) (x2 : Int) : ∀ (n : Nat) (m : Int) (k : Nat), (m = -2 ∨ (-1 ≤ m ∧ m < 12)) → k ≤ 12 → 12 - k < n → f_Model_isQuarrel_L139 k121 n G x2 m k = f_Model_isQuarrel_L163 k121 G x2 (upW h (12 - k) m) := by
  intro n
  induction n with
  | zero => intro m k q1 q2 q3; omega
  | succ n ih =>
    intro m k q1 q2 q3
    by_cases c1 : (12 : Int) ≤ k
    · have : k = 12 := by omega
      subst this
      simp only [f_Model_isQuarrel_L139, if_pos c1]
      rfl
    · by_cases c2 : m < 0
      · simp only [f_Model_isQuarrel_L139, if_neg c1, if_pos c2]
        rw [upW_neg c2]
      · have hw : wr ((k : Int) + 1) = ((k + 1 : Nat) : Int) := by rw [wr_of (by omega) (by omega)]; omega
        simp only [f_Model_isQuarrel_L139, if_neg c1, if_neg c2, gd, if_pos (show 0 ≤ m ∧ m < 12 by omega), hh _ (show m.toNat < 12 by omega), hw]
        rw [ih _ (k + 1) (hr _ (by omega)) (by omega) (by omega), show 12 - k = (12 - (k + 1)) + 1 by omega, upW_pos (by omega)]
theorem qL121 {G : GS} {h : Nat → Int} {N : Nat} (hN : N ≤ 12) (hn : gi G 81 10 = N) (hh : ∀ i, i < 12 → gi G 136 i = h i) (hr : ∀ i, i < 12 → h i = -2 ∨ (-1 ≤ h i ∧ h i < 12)) : ∀ (n l : Nat), l ≤ N → N - l < n → ∃ r : Int, f_Model_isQuarrel_L121 n G l = some (r, G) ∧ (r = 0 ∨ r = 1) ∧ (r = 0 ↔ ∀ i, l ≤ i → i < N → upW h 13 (i : Int) < 0) := by
  intro n
  induction n with
  | zero => intro l q1 q2; omega
  | succ n ih =>
    intro l q1 q2
    by_cases c1 : (N : Int) ≤ l
    · exact ⟨0, by simp only [f_Model_isQuarrel_L121, hn, if_pos c1], Or.inl rfl, by constructor; (intro _ i a b; omega); (intro _; rfl)⟩
    · have hw : wr ((l : Int) + 1) = ((l + 1 : Nat) : Int) := by rw [wr_of (by omega) (by omega)]; omega
      have e := qL139 (k121 := f_Model_isQuarrel_L121 n) hh hr (l : Int) FU (h l) 0 (hr l (by omega)) (by omega) (by unfold FU; omega)
      rw [Nat.sub_zero, show ((0 : Nat) : Int) = 0 from rfl] at e
      have e13 : upW h 12 (h l) = upW h 13 (l : Int) := by
        have e := upW_pos (h := h) (show (0 : Int) ≤ (l : Int) by omega) 12
        rw [Int.toNat_natCast] at e
        exact e.symm
      obtain ⟨r, r1, r2, r3⟩ := ih (l + 1) (by omega) (by omega)
      by_cases c2 : upW h 13 (l : Int) < 0
      · refine ⟨r, ?_, r2, r3.trans ⟨fun a i b1 b2 => ?_, fun a i b1 b2 => a i (by omega) b2⟩⟩
        · simp only [f_Model_isQuarrel_L121, hn, if_neg c1, gd, if_pos (show (0 : Int) ≤ l ∧ (l : Int) < 12 by omega), Int.toNat_natCast, hh l (by omega), e, e13, f_Model_isQuarrel_L163, if_pos c2, hw]
          exact r1
        · by_cases z : i = l
          · rw [z]; exact c2
          · exact a i (by omega) b2
      · refine ⟨1, ?_, Or.inr rfl, ⟨fun z => absurd z (by decide), fun a => absurd (a l (by omega) (by omega)) c2⟩⟩
        simp only [f_Model_isQuarrel_L121, hn, if_neg c1, gd, if_pos (show (0 : Int) ≤ l ∧ (l : Int) < 12 by omega), Int.toNat_natCast, hh l (by omega), e, e13, f_Model_isQuarrel_L163, if_neg c2]
theorem qL24 {D N : Nat} (hD : D < 1024) (hN : N ≤ 12) {w : Nat → Int} (hW : WOK w) (hWN : ∀ j l, j < 10 → N ≤ l → l < 12 → w (12 * j + l) = -2) : ∀ (n : Nat) (G : GS) (j : Nat), j ≤ 10 → 10 - j < n → gi G 81 10 = N → (∀ k, gi G 135 k = w k) → (∀ i, i < 12 → gi G 136 i = hF w (fun a => D.testBit a) i j) → (∀ a, a < j → D.testBit a = false → ∀ i, i < 12 → w (12 * a + i) ≠ -2 → w (12 * a + i) = hF w (fun a => D.testBit a) i j) → ∃ (r : Int) (G1 : GS), f_Model_isQuarrel_L24 n G D j = some (r, G1) ∧ (r = 0 ∨ r = 1) ∧ (∀ c k, c ≠ 136 → gi G1 c k = gi G c k) ∧ (∀ c k, gp G1 c k = gp G c k) ∧ (r = 0 ↔ peaceW w D) ∧ (r = 0 → ∀ l, l < 12 → gi G1 136 l = heldW w D l) := by
  intro n
  induction n with
  | zero => intro G j q1 q2; omega
  | succ n ih =>
    intro G j q1 q2 hn hw hh hal
    by_cases c1 : (10 : Int) ≤ j
    · have : j = 10 := by omega
      subst this
      have hr : ∀ i, i < 12 → hF w (fun a => D.testBit a) i 10 = -2 ∨ (-1 ≤ hF w (fun a => D.testBit a) i 10 ∧ hF w (fun a => D.testBit a) i 10 < 12) := fun i hi => hF_rng hW hi 10 (by omega)
      obtain ⟨r, u1, u2, u3⟩ := qL121 hN hn hh hr FU 0 (by omega) (by unfold FU; omega)
      refine ⟨r, G, by simp only [f_Model_isQuarrel_L24, if_pos c1]; exact u1, u2, fun _ _ _ => rfl, fun _ _ => rfl, u3.trans ?_, fun _ l hl => hh l hl⟩
      unfold peaceW
      rw [ring_iff]
      constructor
      · intro a
        refine ⟨fun x hx y hy l hl px py wx wy => by rw [hal x hx px l hl wx, hal y hy py l hl wy], fun ⟨l, hl, z⟩ => ?_⟩
        have z13 := ring13 (h := heldW w D) hr hl z
        by_cases y : l < N
        · have := a l (by omega) y
          have e : upW (heldW w D) 13 (l : Int) < 0 := this
          omega
        · have e : heldW w D l = -2 := by
            rw [hF_W]
            by_cases q : hF w (fun a => D.testBit a) l 10 = -2
            · exact q
            · obtain ⟨a, a1, a2, a3⟩ := hF_src 10 q
              rw [hWN a l a1 (by omega) hl] at a3
              exact absurd a3.symm q
          rw [show (13 : Nat) = 12 + 1 from rfl, upW_pos (by omega), Int.toNat_natCast, e, upW_neg (by decide)] at z13
          omega
      · intro a i _ hi
        have : ¬ 0 ≤ upW (heldW w D) 12 (i : Int) := fun z => a.2 ⟨i, by omega, z⟩
        have e : upW (heldW w D) 13 (i : Int) = upW (heldW w D) 12 (i : Int) := by
          rw [show (13 : Nat) = 12 + 1 from rfl, upW_add, upW_neg (by omega)]
        show upW (heldW w D) 13 (i : Int) < 0
        omega
    · have hwj : wr ((j : Int) + 1) = ((j + 1 : Nat) : Int) := by rw [wr_of (by omega) (by omega)]; omega
      have hsb := shr_bit (j := j) (by omega) (D : Int)
      rw [tb_nat (by omega)] at hsb
      by_cases c : D.testBit j = true
      · rw [if_pos c] at hsb
        simp only [f_Model_isQuarrel_L24, if_neg c1, hsb, if_true, f_Model_isQuarrel_L113, hwj]
        have hs : ∀ i, hF w (fun a => D.testBit a) i (j + 1) = hF w (fun a => D.testBit a) i j := fun i => by
          show (if D.testBit j = true ∨ w (12 * j + i) = -2 then hF w (fun a => D.testBit a) i j else w (12 * j + i)) = _
          rw [if_pos (Or.inl c)]
        exact ih G (j + 1) (by omega) (by omega) hn hw (fun i hi => by rw [hs]; exact hh i hi) (fun a ha pa i hi wa => by
          rw [hs]
          refine hal a ?_ pa i hi wa
          by_cases z : a = j
          · rw [z, c] at pa; cases pa
          · omega)
      · have cf : D.testBit j = false := by cases h : D.testBit j <;> simp_all
        rw [if_neg c] at hsb
        have e : f_Model_isQuarrel_L24 (n + 1) G D j = f_Model_isQuarrel_L44 (f_Model_isQuarrel_L24 n) FU G D j 0 := by
          simp only [f_Model_isQuarrel_L24, if_neg c1, hsb, if_neg (show ¬ (0 : Int) = 1 by decide)]
        obtain ⟨G1, r1, r2, r3⟩ := qL44 (k24 := f_Model_isQuarrel_L24 n) (D := (D : Int)) (j := j) (by omega) hN (fun l a b => hWN j l (by omega) a b) FU G 0 (by omega) (by unfold FU; omega) hn hw
        rw [show ((0 : Nat) : Int) = 0 from rfl] at r3
        rcases r3 with ⟨⟨i, a1, a2, a4, a5, a6⟩, a3⟩ | ⟨a1, a2, a3⟩
        · refine ⟨1, G1, e.trans a3, Or.inr rfl, r1, r2, ⟨fun z => absurd z (by decide), fun z => ?_⟩, fun z => absurd z (by decide)⟩
          exfalso
          rw [hh i (by omega)] at a5 a6
          obtain ⟨a, b1, b2, b3⟩ := hF_src j a5
          have := z.1 a (by omega) j (by omega) i (by omega) b2 cf (by rw [b3]; exact a5) a4
          rw [b3] at this
          exact a6 this
        · rw [e, a2]
          have hs : ∀ i, hF w (fun a => D.testBit a) i (j + 1) = if w (12 * j + i) = -2 then hF w (fun a => D.testBit a) i j else w (12 * j + i) := fun i => by
            show (if D.testBit j = true ∨ w (12 * j + i) = -2 then hF w (fun a => D.testBit a) i j else w (12 * j + i)) = _
            by_cases z : w (12 * j + i) = -2
            · rw [if_pos (Or.inr z), if_pos z]
            · rw [if_neg (by simp [cf, z]), if_neg z]
          obtain ⟨r, G2, u1, u2, u3, u4, u5, u6⟩ := ih G1 (j + 1) (by omega) (by omega) (by rw [r1 81 10 (by decide)]; exact hn) (fun k => by rw [r1 135 k (by decide)]; exact hw k) (fun i hi => by
            rw [a3 i hi, hs, hh i hi]
            by_cases z : w (12 * j + i) = -2
            · rw [if_pos (Or.inr z), if_pos z]
            · rw [if_neg (by omega), if_neg z]) (fun a ha pa i hi wa => by
            rw [hs]
            by_cases z : a = j
            · subst z; rw [if_neg wa]
            · have h1 := hal a (by omega) pa i hi wa
              by_cases y : w (12 * j + i) = -2
              · rw [if_pos y]; exact h1
              · rw [if_neg y]
                have hiN : i < N := by
                  by_cases q : i < N
                  · exact q
                  · exact absurd (hWN j i (by omega) (by omega) hi) y
                have h2 := a1 i (by omega) hiN y
                rw [hh i hi, ← h1] at h2
                rcases h2 with h2 | h2
                · exact absurd h2 wa
                · exact h2)
          exact ⟨r, G2, u1, u2, fun c k q => (u3 c k q).trans (r1 c k q), fun c k => (u4 c k).trans (r2 c k), u5, u6⟩
theorem qL2 {D : Int} : ∀ (n : Nat) (G : GS) (j : Nat), j ≤ 12 → 12 - j < n → (∀ i, i < j → gi G 136 i = -2) → ∃ G1, f_Model_isQuarrel_L2 n G D j = f_Model_isQuarrel_L24 FU G1 D 0 ∧ (∀ c k, c ≠ 136 → gi G1 c k = gi G c k) ∧ (∀ c k, gp G1 c k = gp G c k) ∧ ∀ i, i < 12 → gi G1 136 i = -2 := by
  intro n
  induction n with
  | zero => intro G j q1 q2; omega
  | succ n ih =>
    intro G j q1 q2 q3
    by_cases c1 : (12 : Int) ≤ j
    · exact ⟨G, by simp only [f_Model_isQuarrel_L2, if_pos c1], fun _ _ _ => rfl, fun _ _ => rfl, fun i hi => q3 i (by omega)⟩
    · have hwj : wr ((j : Int) + 1) = ((j + 1 : Nat) : Int) := by rw [wr_of (by omega) (by omega)]; omega
      have v1 : gi (si G 136 j (-2)) 136 j = -2 := by rw [gi_si, if_pos ⟨rfl, rfl⟩]; exact wr_of (by decide) (by decide)
      have v2 : ∀ c i, ¬ (c = 136 ∧ i = j) → gi (si G 136 j (-2)) c i = gi G c i := fun c i q => by rw [gi_si, if_neg q]
      have v3 : ∀ c i, gp (si G 136 j (-2)) c i = gp G c i := fun _ _ => rfl
      simp only [f_Model_isQuarrel_L2, if_neg c1, gd, if_pos (show (0 : Int) ≤ j ∧ (j : Int) < 12 by omega), wG, Int.toNat_natCast, hwj]
      generalize si G 136 j (-2) = G' at *
      obtain ⟨G1, r1, r2, r3, r4⟩ := ih G' (j + 1) (by omega) (by omega) (fun i hi => by
        by_cases z : i = j
        · rw [z]; exact v1
        · rw [v2 136 i (by omega)]; exact q3 i (by omega))
      exact ⟨G1, r1, fun c k q => (r2 c k q).trans (v2 c k (by omega)), fun c k => (r3 c k).trans (v3 c k), r4⟩
theorem quar_eq {D N : Nat} (hD : D < 1024) (hN : N ≤ 12) {w : Nat → Int} (hW : WOK w) (hWN : ∀ j l, j < 10 → N ≤ l → l < 12 → w (12 * j + l) = -2) {G : GS} (hn : gi G 81 10 = N) (hw : ∀ k, gi G 135 k = w k) : ∃ (r : Int) (G1 : GS), f_Model_isQuarrel G D = some (r, G1) ∧ (r = 0 ∨ r = 1) ∧ (∀ c k, c ≠ 136 → gi G1 c k = gi G c k) ∧ (∀ c k, gp G1 c k = gp G c k) ∧ (r = 0 ↔ peaceW w D) ∧ (r = 0 → ∀ l, l < 12 → gi G1 136 l = heldW w D l) := by
  obtain ⟨G1, r1, r2, r3, r4⟩ := qL2 (D := (D : Int)) FU G 0 (by omega) (by unfold FU; omega) (fun i hi => by omega)
  rw [show ((0 : Nat) : Int) = 0 from rfl] at r1
  obtain ⟨r, G2, u1, u2, u3, u4, u5, u6⟩ := qL24 hD hN hW hWN FU G1 0 (by omega) (by unfold FU; omega) (by rw [r2 81 10 (by decide)]; exact hn) (fun k => by rw [r2 135 k (by decide)]; exact hw k) (fun i hi => by rw [r4 i hi]; rfl) (fun a ha => by omega)
  exact ⟨r, G2, r1.trans u1, u2, fun c k q => (u3 c k q).trans (r2 c k q), fun c k => (u4 c k).trans (r3 c k), u5, u6⟩
