/-! what the text says: words, numbers, signs -/
def isL (b : Int) : Bool := decide ((97 ≤ b ∧ b ≤ 122) ∨ (65 ≤ b ∧ b ≤ 90))
def isD (b : Int) : Bool := decide (48 ≤ b ∧ b ≤ 57)
def isS (b : Int) : Bool := decide ((40 ≤ b ∧ b ≤ 43) ∨ b = 45 ∨ b = 47 ∨ (59 ≤ b ∧ b ≤ 62))
theorem isL_C (G : GS) (b : Int) : f_Text_isLetter G b = some (if isL b = true then 1 else 0) := by
  unfold f_Text_isLetter f_Text_isLetter_L12 isL
  simp only [decide_eq_true_eq]
  by_cases a1 : b < 97
  · rw [if_pos a1]
    by_cases a2 : b < 65
    · rw [if_pos a2, if_neg (by omega)]
    · rw [if_neg a2]
      by_cases a3 : 90 < b
      · rw [if_pos a3, if_neg (by omega)]
      · rw [if_neg a3, if_pos (by omega)]
  · rw [if_neg a1]
    by_cases a4 : b ≤ 122
    · rw [if_pos a4, if_pos (by omega)]
    · rw [if_neg a4, if_neg (show ¬ b < 65 by omega), if_pos (show 90 < b by omega), if_neg (by omega)]
theorem isD_C (G : GS) (b : Int) : f_Text_isDigit G b = some (if isD b = true then 1 else 0) := by
  unfold f_Text_isDigit isD
  simp only [decide_eq_true_eq]
  by_cases a1 : b < 48
  · rw [if_pos a1, if_neg (by omega)]
  · rw [if_neg a1]
    by_cases a2 : 57 < b
    · rw [if_pos a2, if_neg (by omega)]
    · rw [if_neg a2, if_pos (by omega)]
theorem isS_C (G : GS) (b : Int) : f_Text_isSign G b = some (if isS b = true then 1 else 0) := by
  unfold f_Text_isSign isS
  simp only [decide_eq_true_eq]
  have h12 : f_Text_isSign_L12 G b = some (if b = 45 ∨ b = 47 ∨ (59 ≤ b ∧ b ≤ 62) then 1 else 0) := by
    unfold f_Text_isSign_L12
    by_cases a1 : b = 45
    · rw [if_pos a1, if_pos (by omega)]
    · rw [if_neg a1]
      by_cases a2 : b = 47
      · rw [if_pos a2, if_pos (by omega)]
      · rw [if_neg a2]
        by_cases a3 : b < 59
        · rw [if_pos a3, if_neg (by omega)]
        · rw [if_neg a3]
          by_cases a4 : 62 < b
          · rw [if_pos a4, if_neg (by omega)]
          · rw [if_neg a4, if_pos (by omega)]
  rw [h12]
  by_cases a1 : b < 40
  · rw [if_pos a1]
    by_cases a2 : b = 45 ∨ b = 47 ∨ (59 ≤ b ∧ b ≤ 62)
    · rw [if_pos a2, if_pos (by omega)]
    · rw [if_neg a2, if_neg (by omega)]
  · rw [if_neg a1]
    by_cases a3 : b ≤ 43
    · rw [if_pos a3, if_pos (by omega)]
    · rw [if_neg a3]
      by_cases a2 : b = 45 ∨ b = 47 ∨ (59 ≤ b ∧ b ≤ 62)
      · rw [if_pos a2, if_pos (by omega)]
      · rw [if_neg a2, if_neg (by omega)]
/-- how far the bytes of one kind reach -/
def rE (f : Int → Bool) (B : Nat → Int) (L : Nat) : Nat → Nat → Nat
  | 0, p => p
  | m + 1, p => if p < L then (if f (B p) = true then rE f B L m (p + 1) else p) else p
def rN (f : Int → Bool) (B : Nat → Int) (L p : Nat) : Nat := rE f B L (L - p) p
theorem rN_eq (f : Int → Bool) (B : Nat → Int) (L p : Nat) : rN f B L p = if p < L then (if f (B p) = true then rN f B L (p + 1) else p) else p := by
  unfold rN
  by_cases c : p < L
  · rw [show L - p = (L - (p + 1)) + 1 by omega, rE, if_pos c]
  · rw [show L - p = 0 by omega, if_neg c]; rfl
theorem rN_b (f : Int → Bool) (B : Nat → Int) (L : Nat) : ∀ m p, L - p ≤ m → p ≤ L → p ≤ rN f B L p ∧ rN f B L p ≤ L := by
  intro m
  induction m with
  | zero => intro p h1 h2; rw [rN_eq, if_neg (by omega)]; omega
  | succ m ih =>
    intro p h1 h2
    rw [rN_eq]
    by_cases c : p < L
    · rw [if_pos c]
      split
      · have := ih (p + 1) (by omega) (by omega); omega
      · omega
    · rw [if_neg c]; omega
/-- the end of what starts at p -/
def tE (B : Nat → Int) (L p : Nat) : Nat := if isL (B p) = true then rN isL B L (p + 1) else if isD (B p) = true then rN isD B L (p + 1) else p + 1
theorem tE_b {B : Nat → Int} {L p : Nat} (h : p < L) : p < tE B L p ∧ tE B L p ≤ L := by
  have a := rN_b isL B L L (p + 1) (by omega) (by omega)
  have b := rN_b isD B L L (p + 1) (by omega) (by omega)
  unfold tE
  split
  · omega
  · split <;> omega
def TB (G : GS) : Nat → Int := fun k => gi G 16 k
theorem tog18 {G : GS} {L : Nat} (h1 : gi G 15 1 = L) (h8 : L ≤ 800) : ∀ (m p n : Nat), L - p ≤ m → m < n → p ≤ L → 1 ≤ p → f_Text_lastTogether_L18 G n ((p : Int) - 1) p = some ((rN isL (TB G) L p : Int) - 1) := by
  intro m
  induction m with
  | zero =>
    intro p n a1 a2 a3 a4
    obtain ⟨n', rfl⟩ : ∃ n', n = n' + 1 := ⟨n - 1, by omega⟩
    rw [f_Text_lastTogether_L18, h1, if_pos (by omega), rN_eq, if_neg (by omega)]
  | succ m ih =>
    intro p n a1 a2 a3 a4
    obtain ⟨n', rfl⟩ : ∃ n', n = n' + 1 := ⟨n - 1, by omega⟩
    rw [f_Text_lastTogether_L18, h1, rN_eq]
    by_cases c : p < L
    · have hw : wr ((p : Int) + 1) = ((p + 1 : Nat) : Int) := by rw [wr_of (by omega) (by omega)]; omega
      rw [if_neg (by omega), if_pos c, gd, if_pos (by omega), Int.toNat_natCast, isL_C, Option.bind_some]
      show (if (if isL (TB G p) = true then (1 : Int) else 0) = 0 then _ else _) = _
      by_cases d : isL (TB G p) = true
      · have := ih (p + 1) n' (by omega) (by omega) (by omega) (by omega)
        rw [show ((p + 1 : Nat) : Int) - 1 = (p : Int) by omega] at this
        rw [if_pos d, if_pos d, if_neg (by decide), hw]
        exact this
      · rw [if_neg d, if_neg d, if_pos rfl]
    · rw [if_pos (by omega), if_neg c]
theorem tog65 {G : GS} {L : Nat} (h1 : gi G 15 1 = L) (h8 : L ≤ 800) : ∀ (m p n : Nat), L - p ≤ m → m < n → p ≤ L → 1 ≤ p → f_Text_lastTogether_L65 G n ((p : Int) - 1) p = some ((rN isD (TB G) L p : Int) - 1) := by
  intro m
  induction m with
  | zero =>
    intro p n a1 a2 a3 a4
    obtain ⟨n', rfl⟩ : ∃ n', n = n' + 1 := ⟨n - 1, by omega⟩
    rw [f_Text_lastTogether_L65, h1, if_pos (by omega), rN_eq, if_neg (by omega)]
  | succ m ih =>
    intro p n a1 a2 a3 a4
    obtain ⟨n', rfl⟩ : ∃ n', n = n' + 1 := ⟨n - 1, by omega⟩
    rw [f_Text_lastTogether_L65, h1, rN_eq]
    by_cases c : p < L
    · have hw : wr ((p : Int) + 1) = ((p + 1 : Nat) : Int) := by rw [wr_of (by omega) (by omega)]; omega
      rw [if_neg (by omega), if_pos c, gd, if_pos (by omega), Int.toNat_natCast, isD_C, Option.bind_some]
      show (if (if isD (TB G p) = true then (1 : Int) else 0) = 0 then _ else _) = _
      by_cases d : isD (TB G p) = true
      · have := ih (p + 1) n' (by omega) (by omega) (by omega) (by omega)
        rw [show ((p + 1 : Nat) : Int) - 1 = (p : Int) by omega] at this
        rw [if_pos d, if_pos d, if_neg (by decide), hw]
        exact this
      · rw [if_neg d, if_neg d, if_pos rfl]
    · rw [if_pos (by omega), if_neg c]
theorem tog_C {G : GS} {L p : Nat} (h1 : gi G 15 1 = L) (h8 : L ≤ 800) (hp : p < L) : f_Text_lastTogether G p = some ((tE (TB G) L p : Int) - 1) := by
  have hw : wr ((p : Int) + 1) = ((p + 1 : Nat) : Int) := by rw [wr_of (by omega) (by omega)]; omega
  have t1 := tog18 h1 h8 L (p + 1) FU (by omega) (by unfold FU; omega) (by omega) (by omega)
  have t2 := tog65 h1 h8 L (p + 1) FU (by omega) (by unfold FU; omega) (by omega) (by omega)
  rw [show ((p + 1 : Nat) : Int) - 1 = (p : Int) by omega] at t1 t2
  unfold f_Text_lastTogether tE
  rw [gd, if_pos (by omega), Int.toNat_natCast, isL_C, Option.bind_some]
  show (if (if isL (TB G p) = true then (1 : Int) else 0) = 0 then _ else _) = _
  by_cases d : isL (TB G p) = true
  · rw [if_pos d, if_pos d, if_neg (by decide), hw]
    exact t1
  · rw [if_neg d, if_neg d, if_pos rfl, gd, if_pos (by omega), isD_C, Option.bind_some]
    show (if (if isD (TB G p) = true then (1 : Int) else 0) = 0 then _ else _) = _
    by_cases e : isD (TB G p) = true
    · rw [if_pos e, if_pos e, if_neg (by decide), hw]
      exact t2
    · rw [if_neg e, if_neg e, if_pos rfl]
      congr 1
      omega
/-- numbers -/
def nV (B : Nat → Int) : Nat → Nat → Int → Int
  | 0, _, v => v
  | m + 1, p, v => nV B m (p + 1) (wr (((10 * v) + B p) - 48))
theorem num24 {G : GS} {e : Nat} (h8 : e ≤ 800) : ∀ (m p n : Nat) (v : Int), p + m = e → m < n → 1 ≤ e → f_Text_numberOf_L24 G n ((e : Int) - 1) v p = some (nV (TB G) m p v) := by
  intro m
  induction m with
  | zero =>
    intro p n v a1 a2 a3
    obtain ⟨n', rfl⟩ : ∃ n', n = n' + 1 := ⟨n - 1, by omega⟩
    rw [f_Text_numberOf_L24, if_pos (by omega)]; rfl
  | succ m ih =>
    intro p n v a1 a2 a3
    obtain ⟨n', rfl⟩ : ∃ n', n = n' + 1 := ⟨n - 1, by omega⟩
    have hw : wr ((p : Int) + 1) = ((p + 1 : Nat) : Int) := by rw [wr_of (by omega) (by omega)]; omega
    rw [f_Text_numberOf_L24, if_neg (by omega), gd, if_pos (by omega), Int.toNat_natCast, hw]
    exact ih (p + 1) n' _ (by omega) (by omega) a3
def tV (B : Nat → Int) (L p : Nat) : Int := if isD (B p) = true then (if 6 ≤ tE B L p - p then 0 else nV B (tE B L p - p) p 0) else 0
theorem num_C {G : GS} {L p : Nat} (h8 : L ≤ 800) (hp : p < L) : f_Text_numberOf G p ((tE (TB G) L p : Int) - 1) = some (tV (TB G) L p) := by
  have hb := tE_b (B := TB G) hp
  unfold f_Text_numberOf tV
  rw [gd, if_pos (by omega), Int.toNat_natCast, isD_C, Option.bind_some]
  show (if (if isD (TB G p) = true then (1 : Int) else 0) = 0 then _ else _) = _
  by_cases e : isD (TB G p) = true
  · rw [if_pos e, if_pos e, if_neg (by decide), wr_of (by omega) (by omega)]
    by_cases d : 6 ≤ tE (TB G) L p - p
    · rw [if_pos d, if_pos (by omega)]
    · rw [if_neg d, if_neg (by omega)]
      exact num24 (by omega) _ p FU 0 (by omega) (by unfold FU; omega) (by omega)
  · rw [if_neg e, if_neg e, if_pos rfl]
