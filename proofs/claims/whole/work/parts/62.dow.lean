/-! division of numbers that aren't negative -/
theorem dv_nn {x y : Int} (hx : 0 ≤ x) (hx2 : x < 2147483648) (hy : 0 < y) (hy2 : y < 2147483648) : dv x y = x / y := by
  have a : (Int32.ofInt x).toInt = x := wr_of (by omega) (by omega)
  have b : (Int32.ofInt y).toInt = y := wr_of (by omega) (by omega)
  have e : (-1 : Int32).toInt = -1 := by decide
  unfold dv
  rw [Int32.toInt_div_of_ne_right _ _ (fun h => by have := congrArg Int32.toInt h; rw [b, e] at this; omega), a, b]
  exact Int.tdiv_eq_ediv_of_nonneg hx
theorem ldv_nn {x y : Int} (hx : 0 ≤ x) (hx2 : x < 9223372036854775808) (hy : 0 < y) (hy2 : y < 9223372036854775808) : ldv x y = x / y := by
  have a : (Int64.ofInt x).toInt = x := wl_of (by omega) (by omega)
  have b : (Int64.ofInt y).toInt = y := wl_of (by omega) (by omega)
  have e : (-1 : Int64).toInt = -1 := by decide
  unfold ldv
  rw [Int64.toInt_div_of_ne_right _ _ (fun h => by have := congrArg Int64.toInt h; rw [b, e] at this; omega), a, b]
  exact Int.tdiv_eq_ediv_of_nonneg hx
theorem div_le_self {x y : Int} (hx : 0 ≤ x) (hy : 0 < y) : 0 ≤ x / y ∧ x / y ≤ x := ⟨Int.ediv_nonneg hx (by omega), Int.ediv_le_self _ hx⟩
theorem lmd_nn {x y : Int} (hx : 0 ≤ x) (hx2 : x < 9223372036854775808) (hy : 0 < y) (hy2 : y < 9223372036854775808) : lmd x y = x % y := by
  have h := ldv_nn hx hx2 hy hy2
  have hd := div_le_self hx hy
  have e : Int64.ofInt x / Int64.ofInt y = Int64.ofInt (x / y) := by
    apply Int64.toInt_inj.1
    show ldv x y = wl (x / y)
    rw [h, wl_of (by omega) (by omega)]
  unfold lmd
  rw [e, ← Int64.ofInt_mul, ← Int64.ofInt_sub]
  show wl (x - x / y * y) = _
  have h1 := Int.emod_nonneg x (show y ≠ 0 by omega)
  have h2 := Int.emod_lt_of_pos x hy
  have h3 : x - x / y * y = x % y := by
    have := Int.mul_ediv_add_emod x y
    rw [Int.mul_comm] at this
    omega
  rw [h3]
  exact wl_of (by omega) (by omega)
/-! dower: what a set of acres has -/
def wS6 (g : Nat → Int) (s : Nat) : Nat → Int
  | 0 => 0
  | a + 1 => wS6 g s a + if s.testBit a = true then g a else 0
def spS (g q : Nat → Int) (s : Nat) : Nat → Int × Int
  | 0 => (-1, -1)
  | a + 1 => if s.testBit a = true ∧ 0 < g a then (if (spS g q s a).1 = -1 then q a else min (spS g q s a).1 (q a), max (spS g q s a).2 (q a)) else spS g q s a
def Acr (g q : Nat → Int) : Prop := ∀ a, (0 ≤ g a ∧ g a ≤ 99) ∧ (0 ≤ q a ∧ q a ≤ 99)
theorem wS6_b {g q : Nat → Int} (h : Acr g q) (s : Nat) : ∀ a : Nat, 0 ≤ wS6 g s a ∧ wS6 g s a ≤ 99 * a
  | 0 => by simp [wS6]
  | a + 1 => by
    have := wS6_b h s a
    have := (h a).1
    unfold wS6
    split <;> omega
theorem spS_b {g q : Nat → Int} (h : Acr g q) (s : Nat) : ∀ a : Nat, (-1 ≤ (spS g q s a).1 ∧ (spS g q s a).1 ≤ 99) ∧ (-1 ≤ (spS g q s a).2 ∧ (spS g q s a).2 ≤ 99)
  | 0 => by simp [spS]
  | a + 1 => by
    have := spS_b h s a
    have := (h a).2
    unfold spS
    by_cases c : s.testBit a = true ∧ 0 < g a
    · rw [if_pos c]
      by_cases d : (spS g q s a).1 = -1
      · simp only [if_pos d]; omega
      · simp only [if_neg d]; omega
    · rw [if_neg c]; assumption
theorem set_bit {s i : Nat} (hs : s < 64) (hi : i < 6) : bAnd (s : Int) (bShl 1 (i : Int)) = 0 ↔ s.testBit i = false := by
  rw [and_bit (by omega), tb_nat (by omega)]
theorem wsC {G : GS} {l : Nat} (hl : l < 12) {g q : Nat → Int} (h : Acr g q) (hg : ∀ a, a < 6 → gi G 13 (6 * l + a) = g a) {s : Nat} (hs : s < 64) : ∀ (n i : Nat), i ≤ 6 → 6 - i < n → f_Lands_worthOfSet_L5 G n l s (wS6 g s i) i = some (wS6 g s 6) := by
  intro n
  induction n with
  | zero => intro i q1 q2; omega
  | succ n ih =>
    intro i q1 q2
    by_cases c : (6 : Int) ≤ i
    · have : i = 6 := by omega
      subst this
      simp only [f_Lands_worthOfSet_L5, if_pos c]
    · have hw : wr ((i : Int) + 1) = ((i + 1 : Nat) : Int) := by rw [wr_of (by omega) (by omega)]; omega
      have hw1 : wr ((l : Int) * 6 + i) = ((6 * l + i : Nat) : Int) := by rw [wr_of (by omega) (by omega)]; omega
      have g1 : (0 : Int) ≤ ((6 * l + i : Nat) : Int) ∧ ((6 * l + i : Nat) : Int) < 72 := by omega
      have hb := set_bit hs (show i < 6 by omega)
      have ih' := ih (i + 1) (by omega) (by omega)
      have wb := wS6_b h s i
      have hgi := (h i).1
      rw [wS6] at ih'
      by_cases d : s.testBit i = true
      · have hb' : ¬ bAnd (s : Int) (bShl 1 (i : Int)) = 0 := fun z => by rw [hb, d] at z; cases z
        rw [if_pos d] at ih'
        simp only [f_Lands_worthOfSet_L5, if_neg c, if_neg hb', hw1, gd, if_pos g1, Int.toNat_natCast, hg i (by omega), wr_of (show -2147483648 ≤ wS6 g s i + g i by omega) (show wS6 g s i + g i < 2147483648 by omega), f_Lands_worthOfSet_L36, hw]
        exact ih'
      · have df : s.testBit i = false := by cases z : s.testBit i <;> simp_all
        rw [if_neg d, Int.add_zero] at ih'
        simp only [f_Lands_worthOfSet_L5, if_neg c, if_pos (hb.mpr df), f_Lands_worthOfSet_L36, hw]
        exact ih'
theorem spC {G : GS} {l : Nat} (hl : l < 12) {g q : Nat → Int} (h : Acr g q) (hg : ∀ a, a < 6 → gi G 13 (6 * l + a) = g a) (hq : ∀ a, a < 6 → gi G 14 (6 * l + a) = q a) {s : Nat} (hs : s < 64) : ∀ (n i : Nat), i ≤ 6 → 6 - i < n → f_Lands_spreadOfSet_L8 G n l s (spS g q s i).1 (spS g q s i).2 i = some ((spS g q s 6).2 - (spS g q s 6).1) := by
  intro n
  induction n with
  | zero => intro i q1 q2; omega
  | succ n ih =>
    intro i q1 q2
    have sb := spS_b h s i
    by_cases c : (6 : Int) ≤ i
    · have : i = 6 := by omega
      subst this
      simp only [f_Lands_spreadOfSet_L8, if_pos c]
      rw [wr_of (by omega) (by omega)]
    · have hw : wr ((i : Int) + 1) = ((i + 1 : Nat) : Int) := by rw [wr_of (by omega) (by omega)]; omega
      have hw1 : wr ((l : Int) * 6 + i) = ((6 * l + i : Nat) : Int) := by rw [wr_of (by omega) (by omega)]; omega
      have g1 : (0 : Int) ≤ ((6 * l + i : Nat) : Int) ∧ ((6 * l + i : Nat) : Int) < 72 := by omega
      have hb := set_bit hs (show i < 6 by omega)
      have ih' := ih (i + 1) (by omega) (by omega)
      have hgi := h i
      rw [spS] at ih'
      by_cases d : s.testBit i = true
      · have hb' : ¬ bAnd (s : Int) (bShl 1 (i : Int)) = 0 := fun z => by rw [hb, d] at z; cases z
        by_cases e : g i ≤ 0
        · rw [if_neg (by omega)] at ih'
          simp only [f_Lands_spreadOfSet_L8, if_neg c, if_neg hb', hw1, gd, if_pos g1, Int.toNat_natCast, hg i (by omega), if_pos e, f_Lands_spreadOfSet_L84, hw]
          exact ih'
        · rw [if_pos ⟨d, by omega⟩] at ih'
          by_cases f : (spS g q s i).1 = -1
          · simp only [if_pos f] at ih'
            simp only [f_Lands_spreadOfSet_L8, if_neg c, if_neg hb', hw1, gd, if_pos g1, Int.toNat_natCast, hg i (by omega), if_neg e, if_pos f, f_Lands_spreadOfSet_L69, hq i (by omega), f_Lands_spreadOfSet_L84, hw]
            exact ih'
          · simp only [if_neg f] at ih'
            simp only [f_Lands_spreadOfSet_L8, if_neg c, if_neg hb', hw1, gd, if_pos g1, Int.toNat_natCast, hg i (by omega), if_neg e, if_neg f, f_Lands_spreadOfSet_L69, hq i (by omega), f_Lands_spreadOfSet_L84, hw]
            exact ih'
      · have df : s.testBit i = false := by cases z : s.testBit i <;> simp_all
        rw [if_neg (fun z => d z.1)] at ih'
        simp only [f_Lands_spreadOfSet_L8, if_neg c, if_pos (hb.mpr df), f_Lands_spreadOfSet_L84, hw]
        exact ih'
def W6 (g : Nat → Int) (s : Nat) : Int := wS6 g s 6
def S6 (g q : Nat → Int) (s : Nat) : Int := (spS g q s 6).2 - (spS g q s 6).1
theorem W6_b {g q : Nat → Int} (h : Acr g q) (s : Nat) : 0 ≤ W6 g s ∧ W6 g s ≤ 594 := wS6_b h s 6
theorem S6_b {g q : Nat → Int} (h : Acr g q) (s : Nat) : -100 ≤ S6 g q s ∧ S6 g q s ≤ 100 := by
  have := spS_b h s 6
  unfold S6
  omega
theorem wC_eq {G : GS} {l : Nat} (hl : l < 12) {g q : Nat → Int} (h : Acr g q) (hg : ∀ a, a < 6 → gi G 13 (6 * l + a) = g a) {s : Nat} (hs : s < 64) : f_Lands_worthOfSet G l s = some (W6 g s) := wsC hl h hg hs FU 0 (by omega) (by unfold FU; omega)
theorem sC_eq {G : GS} {l : Nat} (hl : l < 12) {g q : Nat → Int} (h : Acr g q) (hg : ∀ a, a < 6 → gi G 13 (6 * l + a) = g a) (hq : ∀ a, a < 6 → gi G 14 (6 * l + a) = q a) {s : Nat} (hs : s < 64) : f_Lands_spreadOfSet G l s = some (S6 g q s) := spC hl h hg hq hs FU 0 (by omega) (by unfold FU; omega)
theorem laysM {l : Nat} (hl : l < 12) {g q : Nat → Int} (h : Acr g q) {s : Nat} (hs : s < 64) : ∀ (n : Nat) (G : GS) (i : Nat), i ≤ 6 → 6 - i < n → (∀ a, a < 6 → gi G 93 (6 * l + a) = g a) → (∀ a, a < 6 → gi G 94 (6 * l + a) = q a) → gi G 81 64 = wS6 g s i → ∃ G1, f_Model_lays_L13 n G l s (spS g q s i).1 (spS g q s i).2 i = some G1 ∧ (∀ c k, ¬ (c = 81 ∧ (k = 64 ∨ k = 65)) → gi G1 c k = gi G c k) ∧ (∀ c k, gp G1 c k = gp G c k) ∧ gi G1 81 64 = W6 g s ∧ gi G1 81 65 = S6 g q s := by
  intro n
  induction n with
  | zero => intro G i q1 q2; omega
  | succ n ih =>
    intro G i q1 q2 hg hq h64
    have sb := spS_b h s i
    by_cases c : (6 : Int) ≤ i
    · have : i = 6 := by omega
      subst this
      refine ⟨si G 81 65 ((spS g q s 6).2 - (spS g q s 6).1), by simp only [f_Model_lays_L13, if_pos c, wG], fun c k z => by rw [gi_si, if_neg (by omega)], fun _ _ => rfl, by rw [gi_si, if_neg (by omega)]; exact h64, ?_⟩
      rw [gi_si, if_pos ⟨rfl, rfl⟩]
      exact wr_of (by omega) (by omega)
    · have hw : wr ((i : Int) + 1) = ((i + 1 : Nat) : Int) := by rw [wr_of (by omega) (by omega)]; omega
      have hw1 : wr (6 * (l : Int) + i) = ((6 * l + i : Nat) : Int) := by rw [wr_of (by omega) (by omega)]; omega
      have g1 : (0 : Int) ≤ ((6 * l + i : Nat) : Int) ∧ ((6 * l + i : Nat) : Int) < 72 := by omega
      have hb := shr_bit (j := i) (by omega) (s : Int)
      rw [tb_nat (by omega)] at hb
      have hgi := h i
      have wb := wS6_b h s i
      by_cases d : s.testBit i = true
      · rw [if_pos d] at hb
        by_cases e : g i = 0
        · have es : spS g q s (i + 1) = spS g q s i := by rw [spS, if_neg (by omega)]
          have ew : wS6 g s (i + 1) = wS6 g s i := by rw [wS6, if_pos d, e, Int.add_zero]
          have ih' := ih G (i + 1) (by omega) (by omega) hg hq (by rw [ew]; exact h64)
          rw [es] at ih'
          simp only [f_Model_lays_L13, if_neg c, hw1, gd, if_pos g1, hb, if_neg (show ¬ (1 : Int) = 0 by decide), Int.toNat_natCast, hg i (by omega), if_pos e, f_Model_lays_L110, hw]
          exact ih'
        · have es : spS g q s (i + 1) = (if (spS g q s i).1 = -1 then q i else min (spS g q s i).1 (q i), max (spS g q s i).2 (q i)) := by rw [spS, if_pos ⟨d, by omega⟩]
          have ew : wS6 g s (i + 1) = wS6 g s i + g i := by rw [wS6, if_pos d]
          have v1 : gi (si G 81 64 (gi G 81 64 + g i)) 81 64 = wS6 g s i + g i := by rw [gi_si, if_pos ⟨rfl, rfl⟩, h64]; exact wr_of (by omega) (by omega)
          have v2 : ∀ c k, ¬ (c = 81 ∧ k = 64) → gi (si G 81 64 (gi G 81 64 + g i)) c k = gi G c k := fun c k z => by rw [gi_si, if_neg z]
          have v3 : ∀ c k, gp (si G 81 64 (gi G 81 64 + g i)) c k = gp G c k := fun _ _ => rfl
          have e1 : f_Model_lays_L13 (n + 1) G l s (spS g q s i).1 (spS g q s i).2 i = f_Model_lays_L13 n (si G 81 64 (gi G 81 64 + g i)) l s (spS g q s (i + 1)).1 (spS g q s (i + 1)).2 ((i + 1 : Nat) : Int) := by
            rw [es]
            simp only [f_Model_lays_L13, if_neg c, hw1, gd, if_pos g1, hb, if_neg (show ¬ (1 : Int) = 0 by decide), Int.toNat_natCast, hg i (by omega), if_neg e, hq i (by omega), wG]
            by_cases f : (spS g q s i).1 = -1
            · simp only [if_pos f, f_Model_lays_L87, f_Model_lays_L93, f_Model_lays_L108, f_Model_lays_L110, hw]
              by_cases f2 : q i ≤ (spS g q s i).2
              · rw [if_pos f2, show max (spS g q s i).2 (q i) = (spS g q s i).2 by omega]
              · rw [if_neg f2, show max (spS g q s i).2 (q i) = q i by omega]
            · simp only [if_neg f, f_Model_lays_L87, f_Model_lays_L93, f_Model_lays_L108, f_Model_lays_L110, hw]
              by_cases f3 : (spS g q s i).1 ≤ q i
              · rw [if_pos f3, show min (spS g q s i).1 (q i) = (spS g q s i).1 by omega]
                by_cases f2 : q i ≤ (spS g q s i).2
                · rw [if_pos f2, show max (spS g q s i).2 (q i) = (spS g q s i).2 by omega]
                · rw [if_neg f2, show max (spS g q s i).2 (q i) = q i by omega]
              · rw [if_neg f3, show min (spS g q s i).1 (q i) = q i by omega]
                by_cases f2 : q i ≤ (spS g q s i).2
                · rw [if_pos f2, show max (spS g q s i).2 (q i) = (spS g q s i).2 by omega]
                · rw [if_neg f2, show max (spS g q s i).2 (q i) = q i by omega]
          rw [e1]
          generalize si G 81 64 (gi G 81 64 + g i) = G' at *
          obtain ⟨G1, r1, r2, r3, r4⟩ := ih G' (i + 1) (by omega) (by omega) (fun a ha => by rw [v2 93 _ (by omega)]; exact hg a ha) (fun a ha => by rw [v2 94 _ (by omega)]; exact hq a ha) (by rw [ew]; exact v1)
          exact ⟨G1, r1, fun c k z => (r2 c k z).trans (v2 c k (by omega)), fun c k => (r3 c k).trans (v3 c k), r4⟩
      · rw [if_neg d] at hb
        have es : spS g q s (i + 1) = spS g q s i := by rw [spS, if_neg (fun z => d z.1)]
        have ew : wS6 g s (i + 1) = wS6 g s i := by rw [wS6, if_neg d, Int.add_zero]
        have ih' := ih G (i + 1) (by omega) (by omega) hg hq (by rw [ew]; exact h64)
        rw [es] at ih'
        simp only [f_Model_lays_L13, if_neg c, hw1, gd, if_pos g1, hb, if_true, f_Model_lays_L110, hw]
        exact ih'
theorem lays_eq {l : Nat} (hl : l < 12) {g q : Nat → Int} (h : Acr g q) {s : Nat} (hs : s < 64) {G : GS} (hg : ∀ a, a < 6 → gi G 93 (6 * l + a) = g a) (hq : ∀ a, a < 6 → gi G 94 (6 * l + a) = q a) : ∃ G1, f_Model_lays G l s = some G1 ∧ (∀ c k, ¬ (c = 81 ∧ (k = 64 ∨ k = 65)) → gi G1 c k = gi G c k) ∧ (∀ c k, gp G1 c k = gp G c k) ∧ gi G1 81 64 = W6 g s ∧ gi G1 81 65 = S6 g q s := by
  have v1 : gi (si G 81 64 0) 81 64 = 0 := by rw [gi_si, if_pos ⟨rfl, rfl⟩]; exact wr_zero
  have v2 : ∀ c k, ¬ (c = 81 ∧ k = 64) → gi (si G 81 64 0) c k = gi G c k := fun c k z => by rw [gi_si, if_neg z]
  have v3 : ∀ c k, gp (si G 81 64 0) c k = gp G c k := fun _ _ => rfl
  unfold f_Model_lays
  simp only [wG]
  generalize si G 81 64 0 = G' at *
  obtain ⟨G1, r1, r2, r3, r4⟩ := laysM hl h hs FU G' 0 (by omega) (by unfold FU; omega) (fun a ha => by rw [v2 93 _ (by omega)]; exact hg a ha) (fun a ha => by rw [v2 94 _ (by omega)]; exact hq a ha) v1
  exact ⟨G1, r1, fun c k z => (r2 c k z).trans (v2 c k (by omega)), fun c k => (r3 c k).trans (v3 c k), r4⟩
/-- s is better than t -/
def btr (g q : Nat → Int) (s t : Nat) : Prop := W6 g s < W6 g t ∨ (W6 g s = W6 g t ∧ (S6 g q s < S6 g q t ∨ (S6 g q s = S6 g q t ∧ s ≤ t)))
def Bst (g q : Nat → Int) (due : Int) (b : Nat) : Prop := b < 64 ∧ due ≤ W6 g b ∧ ∀ s, s < 64 → due ≤ W6 g s → btr g q b s
theorem Bst_one {g q : Nat → Int} {due : Int} {a b : Nat} (h1 : Bst g q due a) (h2 : Bst g q due b) : a = b := by
  have x := h1.2.2 b h2.1 h2.2.1
  have y := h2.2.2 a h1.1 h1.2.1
  unfold btr at x y
  omega
theorem dowC_L {l : Nat} (hl : l < 12) {g q : Nat → Int} (h : Acr g q) {due : Int} : ∀ (n : Nat) (G : GS) (x b : Nat), x ≤ 63 → x < n → (∀ a, a < 6 → gi G 13 (6 * l + a) = g a) → (∀ a, a < 6 → gi G 14 (6 * l + a) = q a) → x ≤ b → b < 64 → due ≤ W6 g b → (∀ s, x ≤ s → s < 64 → due ≤ W6 g s → btr g q b s) → gi G 9 6 = b → gi G 9 7 = W6 g b → gi G 9 8 = S6 g q b → ∃ (G1 : GS) (b1 : Nat), f_Lands_layDower_L35 n G l due ((x : Int) - 1) = some G1 ∧ (∀ c k, ¬ (c = 9 ∧ 6 ≤ k) → gi G1 c k = gi G c k) ∧ (∀ c k, gp G1 c k = gp G c k) ∧ Bst g q due b1 ∧ gi G1 9 6 = b1 ∧ gi G1 9 7 = W6 g b1 ∧ gi G1 9 8 = S6 g q b1 := by
  intro n
  induction n with
  | zero => intro G x b q1 q2; omega
  | succ n ih =>
    intro G x b q1 q2 hg hq b1 b2 b3 b4 e6 e7 e8
    by_cases c : (x : Int) - 1 < 0
    · have : x = 0 := by omega
      subst this
      exact ⟨G, b, by simp only [f_Lands_layDower_L35, if_pos c], fun _ _ _ => rfl, fun _ _ => rfl, ⟨b2, b3, fun s hs hd => b4 s (by omega) hs hd⟩, e6, e7, e8⟩
    · obtain ⟨y, rfl⟩ : ∃ y, x = y + 1 := ⟨x - 1, by omega⟩
      rw [show (((y + 1 : Nat) : Int) - 1) = (y : Int) by omega] at c ⊢
      have hw : wr ((y : Int) + (-1)) = (y : Int) - 1 := by rw [wr_of (by omega) (by omega)]; omega
      have w1 := wC_eq hl h hg (s := y) (by omega)
      have s1 := sC_eq hl h hg hq (s := y) (by omega)
      have wb := W6_b h y
      have sbn := S6_b h y
      have stay : (due ≤ W6 g y → btr g q b y) → f_Lands_layDower_L35 (n + 1) G l due y = f_Lands_layDower_L105 (f_Lands_layDower_L35 n) G l due y → ∃ (G1 : GS) (b1 : Nat), f_Lands_layDower_L35 (n + 1) G l due y = some G1 ∧ (∀ c k, ¬ (c = 9 ∧ 6 ≤ k) → gi G1 c k = gi G c k) ∧ (∀ c k, gp G1 c k = gp G c k) ∧ Bst g q due b1 ∧ gi G1 9 6 = b1 ∧ gi G1 9 7 = W6 g b1 ∧ gi G1 9 8 = S6 g q b1 := fun hb e => by
        rw [f_Lands_layDower_L105, hw] at e
        rw [e]
        exact ih G y b (by omega) (by omega) hg hq (by omega) b2 b3 (fun s a1 a2 a3 => by
          by_cases z : s = y
          · rw [z]; exact hb (z ▸ a3)
          · exact b4 s (by omega) a2 a3) e6 e7 e8
      have take : due ≤ W6 g y → btr g q y b → f_Lands_layDower_L35 (n + 1) G l due y = f_Lands_layDower_L88 (f_Lands_layDower_L35 n) G l due y (W6 g y) (S6 g q y) → ∃ (G1 : GS) (b1 : Nat), f_Lands_layDower_L35 (n + 1) G l due y = some G1 ∧ (∀ c k, ¬ (c = 9 ∧ 6 ≤ k) → gi G1 c k = gi G c k) ∧ (∀ c k, gp G1 c k = gp G c k) ∧ Bst g q due b1 ∧ gi G1 9 6 = b1 ∧ gi G1 9 7 = W6 g b1 ∧ gi G1 9 8 = S6 g q b1 := fun hd hb e => by
        have v6 : gi (si (si (si G 9 6 y) 9 7 (W6 g y)) 9 8 (S6 g q y)) 9 6 = y := by rw [gi_si, if_neg (by omega), gi_si, if_neg (by omega), gi_si, if_pos ⟨rfl, rfl⟩]; exact wr_of (by omega) (by omega)
        have v7 : gi (si (si (si G 9 6 y) 9 7 (W6 g y)) 9 8 (S6 g q y)) 9 7 = W6 g y := by rw [gi_si, if_neg (by omega), gi_si, if_pos ⟨rfl, rfl⟩]; exact wr_of (by omega) (by omega)
        have v8 : gi (si (si (si G 9 6 y) 9 7 (W6 g y)) 9 8 (S6 g q y)) 9 8 = S6 g q y := by rw [gi_si, if_pos ⟨rfl, rfl⟩]; exact wr_of (by omega) (by omega)
        have v2 : ∀ c k, ¬ (c = 9 ∧ 6 ≤ k) → gi (si (si (si G 9 6 y) 9 7 (W6 g y)) 9 8 (S6 g q y)) c k = gi G c k := fun c k z => by rw [gi_si, if_neg (by omega), gi_si, if_neg (by omega), gi_si, if_neg (by omega)]
        have v3 : ∀ c k, gp (si (si (si G 9 6 y) 9 7 (W6 g y)) 9 8 (S6 g q y)) c k = gp G c k := fun _ _ => rfl
        simp only [f_Lands_layDower_L88, wG, f_Lands_layDower_L105, hw] at e
        rw [e]
        generalize si (si (si G 9 6 y) 9 7 (W6 g y)) 9 8 (S6 g q y) = G' at *
        obtain ⟨G1, b5, r1, r2, r3, r4⟩ := ih G' y y (by omega) (by omega) (fun a ha => by rw [v2 13 _ (by omega)]; exact hg a ha) (fun a ha => by rw [v2 14 _ (by omega)]; exact hq a ha) (Nat.le_refl _) (by omega) hd (fun s a1 a2 a3 => by
          by_cases z : s = y
          · rw [z]; unfold btr; omega
          · have := b4 s (by omega) a2 a3
            unfold btr at this hb ⊢
            omega) v6 v7 v8
        exact ⟨G1, b5, r1, fun c k z => (r2 c k z).trans (v2 c k z), fun c k => (r3 c k).trans (v3 c k), r4⟩
      by_cases d1 : W6 g y < due
      · refine stay (fun z => by omega) ?_
        simp only [f_Lands_layDower_L35, if_neg c, w1, Option.bind_some, if_pos d1]
      · by_cases d2 : W6 g b < W6 g y
        · refine stay (fun _ => by unfold btr; omega) ?_
          simp only [f_Lands_layDower_L35, if_neg c, w1, Option.bind_some, if_neg d1, e7, if_pos d2]
        · by_cases d3 : W6 g y < W6 g b
          · refine take (by omega) (by unfold btr; omega) ?_
            simp only [f_Lands_layDower_L35, if_neg c, w1, Option.bind_some, if_neg d1, e7, if_neg d2, s1, if_pos d3]
          · by_cases d4 : S6 g q b < S6 g q y
            · refine stay (fun _ => by unfold btr; omega) ?_
              simp only [f_Lands_layDower_L35, if_neg c, w1, Option.bind_some, if_neg d1, e7, if_neg d2, s1, if_neg d3, e8, if_pos d4]
            · refine take (by omega) (by unfold btr; omega) ?_
              simp only [f_Lands_layDower_L35, if_neg c, w1, Option.bind_some, if_neg d1, e7, if_neg d2, s1, if_neg d3, e8, if_neg d4]
theorem dowM_L {l : Nat} (hl : l < 12) {g q : Nat → Int} (h : Acr g q) {due w : Int} (h63 : due ≤ W6 g 63) : ∀ (n : Nat) (G : GS) (x : Nat) (x5 x6 x7 : Int), x ≤ 64 → 64 - x < n → (∀ a, a < 6 → gi G 93 (6 * l + a) = g a) → (∀ a, a < 6 → gi G 94 (6 * l + a) = q a) → ((x5 = -1 ∧ ∀ s, s < x → W6 g s < due) ∨ ∃ b : Nat, x5 = b ∧ b < x ∧ x6 = W6 g b ∧ x7 = S6 g q b ∧ due ≤ W6 g b ∧ ∀ s, s < x → due ≤ W6 g s → btr g q b s) → ∃ (G1 : GS) (b1 : Nat), f_Model_dower_L78 n G l w due x5 x6 x7 x = some (if w = 0 then due else if w = 1 then (b1 : Int) else if w = 2 then W6 g b1 else S6 g q b1, G1) ∧ (∀ c k, ¬ (c = 81 ∧ (k = 64 ∨ k = 65)) → gi G1 c k = gi G c k) ∧ (∀ c k, gp G1 c k = gp G c k) ∧ Bst g q due b1 := by
  intro n
  induction n with
  | zero => intro G x x5 x6 x7 q1 q2; omega
  | succ n ih =>
    intro G x x5 x6 x7 q1 q2 hg hq hst
    by_cases c : (64 : Int) ≤ x
    · have : x = 64 := by omega
      subst this
      rcases hst with ⟨_, z⟩ | ⟨b, z1, z2, z3, z4, z5, z6⟩
      · have := z 63 (by omega); omega
      · refine ⟨G, b, ?_, fun _ _ _ => rfl, fun _ _ => rfl, ⟨z2, z5, z6⟩⟩
        simp only [f_Model_dower_L78, if_pos c, z1, z3, z4]
        by_cases w0 : w = 0
        · simp only [if_pos w0]
        · by_cases w1 : w = 1
          · simp only [if_neg w0, if_pos w1]
          · by_cases w2 : w = 2
            · simp only [if_neg w0, if_neg w1, if_pos w2]
            · simp only [if_neg w0, if_neg w1, if_neg w2]
    · have hw : wr ((x : Int) + 1) = ((x + 1 : Nat) : Int) := by rw [wr_of (by omega) (by omega)]; omega
      have o0 : x < 64 := by clear hst; omega
      have o1 : x + 1 ≤ 64 := by clear hst; omega
      have o2 : 64 - (x + 1) < n := by clear hst; omega
      obtain ⟨G', r1, r2, r3, r4, r5⟩ := lays_eq hl h (s := x) o0 hg hq
      have go : ∀ y5 y6 y7 : Int, f_Model_dower_L78 (n + 1) G l w due x5 x6 x7 x = f_Model_dower_L153 (f_Model_dower_L78 n) G' l w due y5 y6 y7 x → ((y5 = -1 ∧ ∀ s, s < x + 1 → W6 g s < due) ∨ ∃ b : Nat, y5 = b ∧ b < x + 1 ∧ y6 = W6 g b ∧ y7 = S6 g q b ∧ due ≤ W6 g b ∧ ∀ s, s < x + 1 → due ≤ W6 g s → btr g q b s) → ∃ (G1 : GS) (b1 : Nat), f_Model_dower_L78 (n + 1) G l w due x5 x6 x7 x = some (if w = 0 then due else if w = 1 then (b1 : Int) else if w = 2 then W6 g b1 else S6 g q b1, G1) ∧ (∀ c k, ¬ (c = 81 ∧ (k = 64 ∨ k = 65)) → gi G1 c k = gi G c k) ∧ (∀ c k, gp G1 c k = gp G c k) ∧ Bst g q due b1 := fun y5 y6 y7 e hy => by
        rw [f_Model_dower_L153, hw] at e
        obtain ⟨G1, b1, u1, u2, u3, u4⟩ := ih G' (x + 1) y5 y6 y7 o1 o2 (fun a ha => by rw [r2 93 _ (fun z => absurd z.1 (by decide))]; exact hg a ha) (fun a ha => by rw [r2 94 _ (fun z => absurd z.1 (by decide))]; exact hq a ha) hy
        exact ⟨G1, b1, e.trans u1, fun c k z => (u2 c k z).trans (r2 c k z), fun c k => (u3 c k).trans (r3 c k), u4⟩
      have fresh : (∀ s, s < x + 1 → due ≤ W6 g s → btr g q x s) → due ≤ W6 g x → ((x : Int) = -1 ∧ ∀ s, s < x + 1 → W6 g s < due) ∨ ∃ b : Nat, (x : Int) = b ∧ b < x + 1 ∧ gi G' 81 64 = W6 g b ∧ gi G' 81 65 = S6 g q b ∧ due ≤ W6 g b ∧ ∀ s, s < x + 1 → due ≤ W6 g s → btr g q b s := fun a b => Or.inr ⟨x, rfl, by omega, r4, r5, b, a⟩
      by_cases d1 : W6 g x < due
      · refine go x5 x6 x7 ?_ ?_
        · simp only [f_Model_dower_L78, if_neg c, r1, Option.bind_some, r4, if_pos d1]
        · rcases hst with ⟨z1, z⟩ | ⟨b, z1, z2, z3, z4, z5, z6⟩
          · exact Or.inl ⟨z1, fun s hs => by
              by_cases y : s = x
              · rw [y]; exact d1
              · exact z s (by omega)⟩
          · exact Or.inr ⟨b, z1, by omega, z3, z4, z5, fun s hs hd => by
              by_cases y : s = x
              · rw [y] at hd; omega
              · exact z6 s (by omega) hd⟩
      · rcases hst with ⟨z1, z⟩ | ⟨b, z1, z2, z3, z4, z5, z6⟩
        · refine go x (gi G' 81 64) (gi G' 81 65) ?_ (fresh (fun s hs hd => by
            by_cases y : s = x
            · rw [y]; unfold btr; omega
            · have := z s (by omega); omega) (by omega))
          simp only [f_Model_dower_L78, if_neg c, r1, Option.bind_some, r4, if_neg d1, if_pos z1, f_Model_dower_L137]
        · have hx5 : ¬ x5 = -1 := by omega
          have keep : btr g q b x → (x5 = -1 ∧ ∀ s, s < x + 1 → W6 g s < due) ∨ ∃ b : Nat, x5 = b ∧ b < x + 1 ∧ x6 = W6 g b ∧ x7 = S6 g q b ∧ due ≤ W6 g b ∧ ∀ s, s < x + 1 → due ≤ W6 g s → btr g q b s := fun hb => Or.inr ⟨b, z1, by omega, z3, z4, z5, fun s hs hd => by
            by_cases y : s = x
            · rw [y]; exact hb
            · exact z6 s (by omega) hd⟩
          have new : ¬ btr g q b x → ∀ s, s < x + 1 → due ≤ W6 g s → btr g q x s := fun hb s hs hd => by
            by_cases y : s = x
            · rw [y]; unfold btr; omega
            · have := z6 s (by omega) hd
              unfold btr at this hb ⊢
              omega
          by_cases d2 : W6 g b < W6 g x
          · refine go x5 x6 x7 ?_ (keep (by unfold btr; omega))
            simp only [f_Model_dower_L78, if_neg c, r1, Option.bind_some, r4, if_neg d1, if_neg hx5, z3, if_pos d2]
          · by_cases d3 : W6 g x = W6 g b
            · by_cases d4 : S6 g q x < S6 g q b
              · refine go x (gi G' 81 64) (gi G' 81 65) ?_ (fresh (new (by unfold btr; omega)) (by omega))
                simp only [f_Model_dower_L78, if_neg c, r1, Option.bind_some, r4, if_neg d1, if_neg hx5, z3, if_neg d2, if_pos d3, r5, z4, if_pos d4, f_Model_dower_L137]
              · refine go x5 x6 x7 ?_ (keep (by unfold btr; omega))
                simp only [f_Model_dower_L78, if_neg c, r1, Option.bind_some, r4, if_neg d1, if_neg hx5, z3, if_neg d2, if_pos d3, r5, z4, if_neg d4]
            · refine go x (gi G' 81 64) (gi G' 81 65) ?_ (fresh (new (by unfold btr; omega)) (by omega))
              simp only [f_Model_dower_L78, if_neg c, r1, Option.bind_some, r4, if_neg d1, if_neg hx5, z3, if_neg d2, if_neg d3, f_Model_dower_L137, r5]
