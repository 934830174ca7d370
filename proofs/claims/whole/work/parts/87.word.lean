/-! the words of the class -/
def wS (w : Nat) : Nat := (wsL.getD w 0).toNat
def wLn (w : Nat) : Nat := wS (w + 1) - wS w - 1
theorem wS_ok : ∀ w, w < 36 → wS w + wLn w + 1 = wS (w + 1) ∧ wS (w + 1) ≤ 199 ∧ 1 ≤ wLn w := by decide
theorem wS_l : ∀ w, w < 37 → wsL.getD w 0 = (wS w : Int) := by decide
theorem len0 : (198 : Int) < lenI 0 := by decide +kernel
def eqW (B : Nat → Int) (s p : Nat) : Nat → Nat → Bool
  | 0, _ => true
  | m + 1, j => decide (chS 0 (s + j) = B (p + j)) && eqW B s p m (j + 1)
theorem word34 {G : GS} {s p e : Nat} (h8 : e ≤ 800) (he : p < e) (hs : s + (e - p) ≤ 198) : ∀ (m j n : Nat), j + m = e - p → m < n → f_Text_isWord_L34 G n p ((e : Int) - 1) s ((p + j : Nat) : Int) = some (if eqW (TB G) s p m j = true then 1 else 0) := by
  intro m
  induction m with
  | zero =>
    intro j n a1 a2
    obtain ⟨n', rfl⟩ : ∃ n', n = n' + 1 := ⟨n - 1, by omega⟩
    rw [f_Text_isWord_L34, if_pos (by omega)]
    rfl
  | succ m ih =>
    intro j n a1 a2
    obtain ⟨n', rfl⟩ : ∃ n', n = n' + 1 := ⟨n - 1, by omega⟩
    have hl := len0
    have hw : wr (((p + j : Nat) : Int) + 1) = ((p + (j + 1) : Nat) : Int) := by rw [wr_of (by omega) (by omega)]; omega
    have hx : wr (((s : Int) + ((p + j : Nat) : Int)) - (p : Int)) = ((s + j : Nat) : Int) := by rw [wr_of (by omega) (by omega)]; omega
    rw [f_Text_isWord_L34, if_neg (by omega), hx, gd, if_pos (by omega), gd, if_pos (by omega), Int.toNat_natCast, Int.toNat_natCast, hw, eqW]
    by_cases c : chS 0 (s + j) = gi G 16 (p + j)
    · have c' : chS 0 (s + j) = TB G (p + j) := c
      rw [if_pos c, decide_eq_true c', Bool.true_and]
      exact ih (j + 1) n' (by omega) (by omega)
    · have c' : ¬ chS 0 (s + j) = TB G (p + j) := c
      rw [if_neg c, decide_eq_false c', Bool.false_and, if_neg (by decide)]
def wm (B : Nat → Int) (p e w : Nat) : Bool := decide (wLn w = e - p) && eqW B (wS w) p (e - p) 0
theorem word_C {G : GS} (hT : ∀ i : Nat, i < 37 → gi G 17 i = wsL.getD i 0) {p e w : Nat} (h8 : e ≤ 800) (he : p < e) (hw : w < 36) : f_Text_isWord G w p ((e : Int) - 1) = some (if wm (TB G) p e w = true then 1 else 0) := by
  obtain ⟨k1, k2, k3⟩ := wS_ok w hw
  have e1 := hT w (by omega)
  have e2 := hT (w + 1) (by omega)
  rw [wS_l w (by omega)] at e1
  rw [wS_l (w + 1) (by omega)] at e2
  have hw1 : wr ((w : Int) + 1) = ((w + 1 : Nat) : Int) := by rw [wr_of (by omega) (by omega)]; omega
  unfold f_Text_isWord wm
  rw [gd, if_pos (by omega), hw1, gd, if_pos (by omega), Int.toNat_natCast, Int.toNat_natCast, e1, e2, wr_of (x := ((wS (w + 1) : Int) - (wS w : Int)) - 1) (by omega) (by omega), wr_of (x := (((e : Int) - 1) - (p : Int)) + 1) (by omega) (by omega)]
  by_cases c : wLn w = e - p
  · have h := word34 (G := G) h8 he (s := wS w) (by omega) (e - p) 0 FU (by omega) (by unfold FU; omega)
    rw [decide_eq_true c, Bool.true_and, if_pos (by omega)]
    exact h
  · rw [decide_eq_false c, Bool.false_and, if_neg (by omega), if_neg (by decide)]
def wkF (B : Nat → Int) (p e : Nat) : Nat → Nat → Int
  | 0, _ => 1
  | m + 1, w => if wm B p e w = true then 100 + w else wkF B p e m (w + 1)
theorem wk_C {G : GS} (hT : ∀ i : Nat, i < 37 → gi G 17 i = wsL.getD i 0) {p e : Nat} (h8 : e ≤ 800) (he : p < e) : ∀ (m w n : Nat), w + m = 36 → m < n → f_Text_wordKind_L2 G n p ((e : Int) - 1) w = some (wkF (TB G) p e m w) := by
  intro m
  induction m with
  | zero =>
    intro w n a1 a2
    obtain ⟨n', rfl⟩ : ∃ n', n = n' + 1 := ⟨n - 1, by omega⟩
    rw [f_Text_wordKind_L2, if_pos (by omega)]
    rfl
  | succ m ih =>
    intro w n a1 a2
    obtain ⟨n', rfl⟩ : ∃ n', n = n' + 1 := ⟨n - 1, by omega⟩
    have hw1 : wr ((w : Int) + 1) = ((w + 1 : Nat) : Int) := by rw [wr_of (by omega) (by omega)]; omega
    rw [f_Text_wordKind_L2, if_neg (by omega), word_C hT h8 he (by omega), Option.bind_some, wkF]
    by_cases c : wm (TB G) p e w = true
    · rw [if_pos c, if_pos c, if_neg (by decide), wr_of (by omega) (by omega)]
    · rw [if_neg c, if_neg c, if_pos rfl, hw1]
      exact ih (w + 1) n' (by omega) (by omega)
def tK (B : Nat → Int) (L p : Nat) : Int := if isL (B p) = true then wkF B p (tE B L p) 36 0 else if isD (B p) = true then (if 6 ≤ tE B L p - p then 1 else 2) else if isS (B p) = true then B p else 1
theorem kind_C {G : GS} (hT : ∀ i : Nat, i < 37 → gi G 17 i = wsL.getD i 0) {L p : Nat} (h8 : L ≤ 800) (hp : p < L) : f_Text_kindOf G p ((tE (TB G) L p : Int) - 1) = some (tK (TB G) L p) := by
  have hb := tE_b (B := TB G) hp
  unfold f_Text_kindOf tK
  rw [gd, if_pos (by omega), Int.toNat_natCast, isL_C, Option.bind_some]
  show (if (if isL (TB G p) = true then (1 : Int) else 0) = 0 then _ else _) = _
  by_cases d : isL (TB G p) = true
  · have h := wk_C hT (p := p) (e := tE (TB G) L p) (by omega) (by omega) 36 0 FU (by omega) (by unfold FU; omega)
    have h' : f_Text_wordKind G p ((tE (TB G) L p : Int) - 1) = some (wkF (TB G) p (tE (TB G) L p) 36 0) := h
    rw [if_pos d, if_pos d, if_neg (by decide), h', Option.bind_some]
  · rw [if_neg d, if_neg d, if_pos rfl, isD_C, Option.bind_some]
    show (if (if isD (TB G p) = true then (1 : Int) else 0) = 0 then _ else _) = _
    by_cases e : isD (TB G p) = true
    · rw [if_pos e, if_pos e, if_neg (by decide), wr_of (by omega) (by omega)]
      by_cases y : 6 ≤ tE (TB G) L p - p
      · rw [if_pos y, if_pos (by omega)]
      · rw [if_neg y, if_neg (by omega)]
    · rw [if_neg e, if_neg e, if_pos rfl, isS_C, Option.bind_some]
      show (if (if isS (TB G p) = true then (1 : Int) else 0) = 0 then _ else _) = _
      by_cases f : isS (TB G p) = true
      · rw [if_pos f, if_pos f, if_neg (by decide)]; rfl
      · rw [if_neg f, if_neg f, if_pos rfl]
