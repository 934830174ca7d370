/-! the proof of an age: how many agree -/
theorem lc_spec {x y : Int} (hx : wl x = x) (hy : wl y = y) : lc x y = if y < x then 1 else if x = y then 0 else -1 := by
  have h1 : (Int64.ofInt y < Int64.ofInt x) ↔ y < x := by
    rw [Int64.lt_iff_toInt_lt]
    show wl y < wl x ↔ _
    rw [hx, hy]
  have h2 : (Int64.ofInt x = Int64.ofInt y) ↔ x = y := ⟨fun h => by rw [← hx, ← hy]; unfold wl; rw [h], fun h => by rw [h]⟩
  show (if Int64.ofInt y < Int64.ofInt x then (1 : Int32) else if Int64.ofInt x = Int64.ofInt y then 0 else -1).toInt = _
  by_cases c1 : y < x
  · rw [if_pos (h1.mpr c1), if_pos c1]; rfl
  · rw [if_neg (fun h => c1 (h1.mp h)), if_neg c1]
    by_cases c2 : x = y
    · rw [if_pos (h2.mpr c2), if_pos c2]; rfl
    · rw [if_neg (fun h => c2 (h2.mp h)), if_neg c2]; rfl
/-- how many of the first n spans hold d -/
def cn (lo hi : Nat → Int) (d : Int) : Nat → Nat
  | 0 => 0
  | n + 1 => cn lo hi d n + if lo n ≤ d ∧ d ≤ hi n then 1 else 0
theorem cn_s (lo hi : Nat → Int) (d : Int) (n : Nat) : cn lo hi d (n + 1) = cn lo hi d n + if lo n ≤ d ∧ d ≤ hi n then 1 else 0 := rfl
theorem cn_le (lo hi : Nat → Int) (d : Int) : ∀ n, cn lo hi d n ≤ n
  | 0 => Nat.le_refl _
  | n + 1 => by
    have := cn_le lo hi d n
    rw [cn_s]
    split <;> omega
theorem cn_up {lo hi : Nat → Int} {d : Int} : ∀ n, (∀ m, m < n → lo m ≠ d + 1) → cn lo hi (d + 1) n ≤ cn lo hi d n
  | 0, _ => Nat.le_refl _
  | n + 1, h => by
    have h1 := cn_up (lo := lo) (hi := hi) (d := d) n (fun m hm => h m (by omega))
    have h2 := h n (by omega)
    rw [cn_s, cn_s]
    by_cases c : lo n ≤ d + 1 ∧ d + 1 ≤ hi n
    · rw [if_pos c, if_pos (by omega)]; omega
    · rw [if_neg c]; omega
theorem cn_dn {lo hi : Nat → Int} {d : Int} : ∀ n, (∀ m, m < n → hi m ≠ d) → cn lo hi d n ≤ cn lo hi (d + 1) n
  | 0, _ => Nat.le_refl _
  | n + 1, h => by
    have h1 := cn_dn (lo := lo) (hi := hi) (d := d) n (fun m hm => h m (by omega))
    have h2 := h n (by omega)
    rw [cn_s, cn_s]
    by_cases c : lo n ≤ d ∧ d ≤ hi n
    · rw [if_pos c, if_pos (by omega)]; omega
    · rw [if_neg c]; omega
/-- the first of the days with the most, and how many -/
def Fst (lo hi : Nat → Int) (n : Nat) (f : Int) : Prop := (0 ≤ f ∧ f ≤ 29999) ∧ ∀ d, 0 ≤ d → d ≤ 29999 → cn lo hi d n ≤ cn lo hi f n ∧ (cn lo hi d n = cn lo hi f n → f ≤ d)
def Lst (lo hi : Nat → Int) (n : Nat) (f l : Int) : Prop := (0 ≤ l ∧ l ≤ 29999) ∧ cn lo hi l n = cn lo hi f n ∧ ∀ d, 0 ≤ d → d ≤ 29999 → cn lo hi d n = cn lo hi f n → d ≤ l
def Sur (lo hi : Nat → Int) (n : Nat) (f l : Int) : Prop := 0 < cn lo hi f n ∧ ∀ d, f ≤ d → d ≤ l → cn lo hi d n = cn lo hi f n
theorem Fst_one {lo hi : Nat → Int} {n : Nat} {f g : Int} (h1 : Fst lo hi n f) (h2 : Fst lo hi n g) : f = g := by
  have a := h1.2 g h2.1.1 h2.1.2
  have b := h2.2 f h1.1.1 h1.1.2
  have := a.2 (by omega)
  have := b.2 (by omega)
  omega
theorem Lst_one {lo hi : Nat → Int} {n : Nat} {f l m : Int} (h1 : Lst lo hi n f l) (h2 : Lst lo hi n f m) : l = m := by
  have := h1.2.2 m h2.1.1 h2.1.2 h2.2.1
  have := h2.2.2 l h1.1.1 h1.1.2 h1.2.1
  omega
theorem Fst_of {lo hi : Nat → Int} {n : Nat} {f : Int} (hf : 0 ≤ f ∧ f ≤ 29999) (h0 : cn lo hi 0 n ≤ cn lo hi f n ∧ (cn lo hi 0 n = cn lo hi f n → f ≤ 0)) (hm : ∀ m, m < n → 0 ≤ lo m → lo m ≤ 29999 → cn lo hi (lo m) n ≤ cn lo hi f n ∧ (cn lo hi (lo m) n = cn lo hi f n → f ≤ lo m)) : Fst lo hi n f := by
  refine ⟨hf, ?_⟩
  have key : ∀ k : Nat, (k : Int) ≤ 29999 → cn lo hi k n ≤ cn lo hi f n ∧ (cn lo hi k n = cn lo hi f n → f ≤ k) := by
    intro k
    induction k with
    | zero => intro _; exact h0
    | succ k ih =>
      intro hk
      by_cases c : ∃ m, m < n ∧ lo m = ((k + 1 : Nat) : Int)
      · obtain ⟨m, h1, h2⟩ := c
        have := hm m h1 (by omega) (by omega)
        rw [h2] at this
        exact this
      · have h1 := cn_up (lo := lo) (hi := hi) (d := (k : Int)) n (fun m hm e => c ⟨m, hm, by omega⟩)
        have h2 := ih (by omega)
        rw [show ((k : Int) + 1) = ((k + 1 : Nat) : Int) by omega] at h1
        refine ⟨by omega, fun e => ?_⟩
        have := h2.2 (by omega)
        omega
  intro d h1 h2
  have := key d.toNat (by omega)
  rw [show ((d.toNat : Nat) : Int) = d by omega] at this
  exact this
theorem Lst_of {lo hi : Nat → Int} {n : Nat} {f l : Int} (hF : Fst lo hi n f) (hl : 0 ≤ l ∧ l ≤ 29999) (he : cn lo hi l n = cn lo hi f n) (hn : cn lo hi 29999 n ≠ cn lo hi f n) (hm : ∀ m, m < n → 0 ≤ hi m → hi m ≤ 29999 → cn lo hi (hi m) n = cn lo hi f n → hi m ≤ l) : Lst lo hi n f l := by
  refine ⟨hl, he, ?_⟩
  have key : ∀ k : Nat, (k : Int) ≤ 29999 → cn lo hi (29999 - (k : Int)) n = cn lo hi f n → 29999 - (k : Int) ≤ l := by
    intro k
    induction k with
    | zero => intro _ e; exact absurd e (by simpa using hn)
    | succ k ih =>
      intro hk e
      have h2 := ih (by omega)
      by_cases c : ∃ m, m < n ∧ hi m = 29999 - ((k + 1 : Nat) : Int)
      · obtain ⟨m, h1, h3⟩ := c
        have := hm m h1 (by omega) (by omega) (by rw [h3]; exact e)
        omega
      · have h1 := cn_dn (lo := lo) (hi := hi) (d := 29999 - ((k + 1 : Nat) : Int)) n (fun m hm e => c ⟨m, hm, e⟩)
        rw [show (29999 - ((k + 1 : Nat) : Int) + 1) = 29999 - (k : Int) by omega] at h1
        have h3 := (hF.2 (29999 - (k : Int)) (by omega) (by omega)).1
        have := h2 (by omega)
        omega
  intro d h1 h2 e
  have := key (29999 - d).toNat (by omega)
  rw [show 29999 - (((29999 - d).toNat : Nat) : Int) = d by omega] at this
  exact this e
theorem Sur_of {lo hi : Nat → Int} {n : Nat} {f l : Int} (hF : Fst lo hi n f) (hl : l ≤ 29999) (hm : ∀ m, m < n → f < hi m + 1 → hi m + 1 ≤ l → cn lo hi (hi m + 1) n = cn lo hi f n) : ∀ d, f ≤ d → d ≤ l → cn lo hi d n = cn lo hi f n := by
  have key : ∀ k : Nat, f + (k : Int) ≤ l → cn lo hi (f + (k : Int)) n = cn lo hi f n := by
    intro k
    induction k with
    | zero => intro _; rw [show f + ((0 : Nat) : Int) = f by omega]
    | succ k ih =>
      intro hk
      have h2 := ih (by omega)
      by_cases c : ∃ m, m < n ∧ hi m = f + (k : Int)
      · obtain ⟨m, h1, h3⟩ := c
        have := hm m h1 (by omega) (by omega)
        rw [h3, show f + (k : Int) + 1 = f + ((k + 1 : Nat) : Int) by omega] at this
        exact this
      · have h1 := cn_dn (lo := lo) (hi := hi) (d := f + (k : Int)) n (fun m hm e => c ⟨m, hm, e⟩)
        rw [show f + (k : Int) + 1 = f + ((k + 1 : Nat) : Int) by omega] at h1
        have h3 := (hF.2 (f + ((k + 1 : Nat) : Int)) (by have := hF.1; omega) (by omega)).1
        omega
  intro d h1 h2
  have := key (d - f).toNat (by omega)
  rw [show f + (((d - f).toNat : Nat) : Int) = d by omega] at this
  exact this
/-- the memories of p, in the store -/
def MD (G : GS) (p n : Nat) : Prop := p < 32 ∧ n ≤ 24 ∧ gi G 25 p = n ∧ gi G 89 p = n ∧ (∀ k, gi G 130 k = gi G 24 k) ∧ (∀ e, gi G 24 e = -1 ∨ (0 ≤ gi G 24 e ∧ gi G 24 e ≤ 29999)) ∧ ∀ m, m < n → MOKe G (24 * p + m)
def loF (G : GS) (p : Nat) : Nat → Int := fun m => gi G 24 (gi G 26 (24 * p + m)).toNat + gi G 27 (24 * p + m)
def hiF (G : GS) (p : Nat) : Nat → Int := fun m => gi G 24 (gi G 26 (24 * p + m)).toNat + gi G 28 (24 * p + m)
theorem MD_fr {G G' : GS} {p n : Nat} (hi : ∀ c k, (24 ≤ c ∧ c ≤ 28) ∨ c = 89 ∨ (130 ≤ c ∧ c ≤ 134) → gi G' c k = gi G c k) (h : MD G p n) : MD G' p n ∧ loF G' p = loF G p ∧ hiF G' p = hiF G p := by
  obtain ⟨h1, h2, h3, h4, h5, h6, h7⟩ := h
  refine ⟨⟨h1, h2, by rw [hi _ _ (by omega)]; exact h3, by rw [hi _ _ (by omega)]; exact h4, fun k => by rw [hi _ _ (by omega), hi _ _ (by omega)]; exact h5 k, fun e => by rw [hi _ _ (by omega)]; exact h6 e, fun m hm => ?_⟩, ?_, ?_⟩
  · have := h7 m hm
    unfold MOKe at this ⊢
    simp only [hi 24 _ (by omega), hi 26 _ (by omega), hi 27 _ (by omega), hi 28 _ (by omega), hi 131 _ (by omega), hi 132 _ (by omega), hi 133 _ (by omega), hi 134 _ (by omega)]
    exact this
  · funext m
    unfold loF
    rw [hi 24 _ (by omega), hi 26 _ (by omega), hi 27 _ (by omega)]
  · funext m
    unfold hiF
    rw [hi 24 _ (by omega), hi 26 _ (by omega), hi 28 _ (by omega)]
theorem MD_rng {G : GS} {p n m : Nat} (h : MD G p n) (hm : m < n) : (0 ≤ gi G 24 (gi G 26 (24 * p + m)).toNat ∧ gi G 24 (gi G 26 (24 * p + m)).toNat ≤ 29999) ∧ (-40000000 ≤ loF G p m ∧ loF G p m ≤ 40000000) ∧ (-40000000 ≤ hiF G p m ∧ hiF G p m ≤ 40000000) := by
  obtain ⟨h1, h2, h3, h4, h5, h6, h7⟩ := h
  have a := h7 m hm
  have b := h6 (gi G 26 (24 * p + m)).toNat
  unfold MOKe at a
  unfold loF hiF
  have c : 0 ≤ gi G 24 (gi G 26 (24 * p + m)).toNat ∧ gi G 24 (gi G 26 (24 * p + m)).toNat ≤ 29999 := by omega
  refine ⟨c, ?_, ?_⟩ <;> omega
theorem low_eq {G : GS} {p n m : Nat} (h : MD G p n) (hm : m < n) : f_Remembered_lowOf G p m = some (loF G p m) := by
  have r := MD_rng h hm
  obtain ⟨h1, h2, h3, h4, h5, h6, h7⟩ := h
  have a := h7 m hm
  unfold MOKe at a
  have hw1 : wr ((p : Int) * 24 + m) = ((24 * p + m : Nat) : Int) := by rw [wr_of (by omega) (by omega)]; omega
  have g1 : (0 : Int) ≤ ((24 * p + m : Nat) : Int) ∧ ((24 * p + m : Nat) : Int) < 768 := by omega
  have hv : wr (gi G 24 (gi G 26 (24 * p + m)).toNat + gi G 27 (24 * p + m)) = loF G p m := wr_of (by have := r.2.1; unfold loF at this; omega) (by have := r.2.1; unfold loF at this; omega)
  simp only [f_Remembered_lowOf, hw1, gd, if_pos g1, Int.toNat_natCast, if_pos (show 0 ≤ gi G 26 (24 * p + m) ∧ gi G 26 (24 * p + m) < 16 by omega), hv]
theorem high_eq {G : GS} {p n m : Nat} (h : MD G p n) (hm : m < n) : f_Remembered_highOf G p m = some (hiF G p m) := by
  have r := MD_rng h hm
  obtain ⟨h1, h2, h3, h4, h5, h6, h7⟩ := h
  have a := h7 m hm
  unfold MOKe at a
  have hw1 : wr ((p : Int) * 24 + m) = ((24 * p + m : Nat) : Int) := by rw [wr_of (by omega) (by omega)]; omega
  have g1 : (0 : Int) ≤ ((24 * p + m : Nat) : Int) ∧ ((24 * p + m : Nat) : Int) < 768 := by omega
  have hv : wr (gi G 24 (gi G 26 (24 * p + m)).toNat + gi G 28 (24 * p + m)) = hiF G p m := wr_of (by have := r.2.2; unfold hiF at this; omega) (by have := r.2.2; unfold hiF at this; omega)
  simp only [f_Remembered_highOf, hw1, gd, if_pos g1, Int.toNat_natCast, if_pos (show 0 ≤ gi G 26 (24 * p + m) ∧ gi G 26 (24 * p + m) < 16 by omega), hv]
theorem agC_eq {G : GS} {p n m : Nat} (h : MD G p n) (hm : m < n) (d : Int) : f_Remembered_agrees G p m d = some (if loF G p m ≤ d ∧ d ≤ hiF G p m then 1 else 0) := by
  simp only [f_Remembered_agrees, low_eq h hm, high_eq h hm, Option.bind_some]
  by_cases c1 : d < loF G p m
  · rw [if_pos c1, if_neg (by omega)]
  · rw [if_neg c1]
    by_cases c2 : hiF G p m < d
    · rw [if_pos c2, if_neg (by omega)]
    · rw [if_neg c2, if_pos (by omega)]
set_option maxRecDepth 100000 in
theorem agM_eq {G : GS} {p n m : Nat} (h : MD G p n) (hm : m < n) {d : Int} (hd : 0 ≤ d ∧ d ≤ 29999) : f_Model_agrees G ((24 * p + m : Nat) : Int) d = some (if loF G p m ≤ d ∧ d ≤ hiF G p m then 1 else 0) := by
  have r := MD_rng h hm
  obtain ⟨h1, h2, h3, h4, h5, h6, h7⟩ := h
  have a := h7 m hm
  unfold MOKe at a
  obtain ⟨a1, a2, a3, a4, a5, a6, a7, a8, a9⟩ := a
  have g1 : (0 : Int) ≤ ((24 * p + m : Nat) : Int) ∧ ((24 * p + m : Nat) : Int) < 768 := by omega
  have g2 : 0 ≤ gi G 26 (24 * p + m) ∧ gi G 26 (24 * p + m) < 16 := by omega
  unfold loF hiF
  simp only [f_Model_agrees, gd, if_pos g1, Int.toNat_natCast, a3, if_pos g2, h5]
  have r1 := r.1
  generalize gi G 24 (gi G 26 (24 * p + m)).toNat = e at *
  generalize gi G 132 (24 * p + m) = N at *
  generalize gi G 134 (24 * p + m) = o at *
  rcases a9 with ⟨k1, k2, k3⟩ | ⟨k1, k2, k3⟩ | ⟨k1, k2, k3⟩ | ⟨k1, k2, k3⟩ | ⟨k1, k2, k3⟩
  · simp only [k1, if_true, k2, k3]
    by_cases c : e ≤ d
    · rw [if_pos c, if_neg (by omega)]
    · rw [if_neg c, if_pos (by omega)]
  · simp only [k1, if_neg (show ¬ (22 : Int) = 21 by decide), if_true, k2, k3]
    by_cases c : d ≤ e
    · rw [if_pos c, if_neg (by omega)]
    · rw [if_neg c, if_pos (by omega)]
  · simp only [k1, if_neg (show ¬ (23 : Int) = 21 by decide), if_neg (show ¬ (23 : Int) = 22 by decide), if_true, k2, k3, wr_of (show -2147483648 ≤ e - N by omega) (show e - N < 2147483648 by omega)]
    by_cases c : d = e - N
    · rw [if_pos c, if_pos (by omega)]
    · rw [if_neg c, if_neg (by omega)]
  · simp only [k1, if_neg (show ¬ (26 : Int) = 21 by decide), if_neg (show ¬ (26 : Int) = 22 by decide), if_neg (show ¬ (26 : Int) = 23 by decide), if_neg (show ¬ (26 : Int) = 24 by decide), if_neg (show ¬ (26 : Int) = 25 by decide), if_true, k2, k3, wr_of (show -2147483648 ≤ e + N by omega) (show e + N < 2147483648 by omega)]
    by_cases c : d = e + N
    · rw [if_pos c, if_pos (by omega)]
    · rw [if_neg c, if_neg (by omega)]
  · have w1 : wl (d - e + 360 * N) = d - e + 360 * N := wl_of (by omega) (by omega)
    have w2 : wr (-o) = -o := wr_of (by omega) (by omega)
    have l1 := lc_spec (x := d - e + 360 * N) (y := o) w1 (wl_of (by omega) (by omega))
    have l2 := lc_spec (x := d - e + 360 * N) (y := -o) w1 (wl_of (by omega) (by omega))
    simp only [k1, if_neg (show ¬ (24 : Int) = 21 by decide), if_neg (show ¬ (24 : Int) = 22 by decide), if_neg (show ¬ (24 : Int) = 23 by decide), if_true, k2, k3, w1, w2, l1, l2]
    by_cases c1 : o < d - e + 360 * N
    · rw [if_pos c1, if_pos (by decide), if_neg (by omega)]
    · rw [if_neg c1, if_neg (by split <;> decide)]
      by_cases c2 : -o < d - e + 360 * N
      · rw [if_pos c2, if_neg (by decide), if_pos (by omega)]
      · rw [if_neg c2]
        by_cases c3 : d - e + 360 * N = -o
        · rw [if_pos c3, if_neg (by decide), if_pos (by omega)]
        · rw [if_neg c3, if_pos (by decide), if_neg (by omega)]
theorem agrC_L {G : GS} {p n : Nat} (h : MD G p n) (d : Int) : ∀ (k m : Nat), m ≤ n → n - m < k → f_Remembered_agreeing_L5 G k p d (cn (loF G p) (hiF G p) d m) m = some (cn (loF G p) (hiF G p) d n : Int) := by
  intro k
  induction k with
  | zero => intro m q1 q2; omega
  | succ k ih =>
    intro m q1 q2
    obtain ⟨h1, h2, h3, -⟩ := id h
    have g1 : (0 : Int) ≤ (p : Int) ∧ (p : Int) < 32 := by omega
    by_cases c : (n : Int) ≤ m
    · have : m = n := by omega
      subst this
      simp only [f_Remembered_agreeing_L5, gd, if_pos g1, Int.toNat_natCast, h3, if_pos c]
    · have hw : wr ((m : Int) + 1) = ((m + 1 : Nat) : Int) := by rw [wr_of (by omega) (by omega)]; omega
      have hc := cn_le (loF G p) (hiF G p) d m
      have := ih (m + 1) (by omega) (by omega)
      rw [cn_s] at this
      by_cases z : loF G p m ≤ d ∧ d ≤ hiF G p m
      · have hw2 : wr ((cn (loF G p) (hiF G p) d m : Int) + 1) = ((cn (loF G p) (hiF G p) d m + 1 : Nat) : Int) := by rw [wr_of (by omega) (by omega)]; omega
        rw [if_pos z] at this
        simp only [f_Remembered_agreeing_L5, gd, if_pos g1, Int.toNat_natCast, h3, if_neg c, agC_eq h (show m < n by omega) d, if_pos z, Option.bind_some, if_neg (show ¬ (1 : Int) = 0 by decide), f_Remembered_agreeing_L33, hw, hw2]
        exact this
      · have hw2 : wr ((cn (loF G p) (hiF G p) d m : Int) + 0) = ((cn (loF G p) (hiF G p) d m + 0 : Nat) : Int) := by rw [wr_of (by omega) (by omega)]; omega
        rw [if_neg z] at this
        simp only [f_Remembered_agreeing_L5, gd, if_pos g1, Int.toNat_natCast, h3, if_neg c, agC_eq h (show m < n by omega) d, if_neg z, Option.bind_some, if_true, f_Remembered_agreeing_L33, hw, hw2]
        exact this
theorem agrC {G : GS} {p n : Nat} (h : MD G p n) (d : Int) : f_Remembered_agreeing G p d = some (cn (loF G p) (hiF G p) d n : Int) := agrC_L h d FU 0 (by omega) (by have := h.2.1; unfold FU; omega)
theorem agrM_L {G : GS} {p n : Nat} (h : MD G p n) {d : Int} (hd : 0 ≤ d ∧ d ≤ 29999) : ∀ (k m : Nat), m ≤ n → n - m < k → f_Model_agreeing_L5 G k p d (cn (loF G p) (hiF G p) d m) m = some (cn (loF G p) (hiF G p) d n : Int) := by
  intro k
  induction k with
  | zero => intro m q1 q2; omega
  | succ k ih =>
    intro m q1 q2
    obtain ⟨h1, h2, h3, h4, -⟩ := id h
    have g1 : (0 : Int) ≤ (p : Int) ∧ (p : Int) < 32 := by omega
    by_cases c : (n : Int) ≤ m
    · have : m = n := by omega
      subst this
      simp only [f_Model_agreeing_L5, gd, if_pos g1, Int.toNat_natCast, h4, if_pos c]
    · have hw : wr ((m : Int) + 1) = ((m + 1 : Nat) : Int) := by rw [wr_of (by omega) (by omega)]; omega
      have hw1 : wr (24 * (p : Int) + m) = ((24 * p + m : Nat) : Int) := by rw [wr_of (by omega) (by omega)]; omega
      have hc := cn_le (loF G p) (hiF G p) d m
      have := ih (m + 1) (by omega) (by omega)
      rw [cn_s] at this
      by_cases z : loF G p m ≤ d ∧ d ≤ hiF G p m
      · have hw2 : wr ((cn (loF G p) (hiF G p) d m : Int) + 1) = ((cn (loF G p) (hiF G p) d m + 1 : Nat) : Int) := by rw [wr_of (by omega) (by omega)]; omega
        rw [if_pos z] at this
        simp only [f_Model_agreeing_L5, gd, if_pos g1, Int.toNat_natCast, h4, if_neg c, hw1, agM_eq h (show m < n by omega) hd, if_pos z, Option.bind_some, if_neg (show ¬ (1 : Int) = 0 by decide), f_Model_agreeing_L37, hw, hw2]
        exact this
      · have hw2 : wr ((cn (loF G p) (hiF G p) d m : Int) + 0) = ((cn (loF G p) (hiF G p) d m + 0 : Nat) : Int) := by rw [wr_of (by omega) (by omega)]; omega
        rw [if_neg z] at this
        simp only [f_Model_agreeing_L5, gd, if_pos g1, Int.toNat_natCast, h4, if_neg c, hw1, agM_eq h (show m < n by omega) hd, if_neg z, Option.bind_some, if_true, f_Model_agreeing_L37, hw, hw2]
        exact this
theorem agrM {G : GS} {p n : Nat} (h : MD G p n) {d : Int} (hd : 0 ≤ d ∧ d ≤ 29999) : f_Model_agreeing G p d = some (cn (loF G p) (hiF G p) d n : Int) := agrM_L h hd FU 0 (by omega) (by have := h.2.1; unfold FU; omega)
