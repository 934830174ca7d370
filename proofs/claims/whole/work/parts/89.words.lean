/-! the words of the reference are the words of the class -/
def sgL : List Nat := [0, 5, 16, 17, 18, 19, 20, 14, 21, 22, 23, 24, 25, 26, 27, 28, 29, 13, 15, 7, 8, 9, 10, 11, 12, 0, 1, 2, 3, 4, 6, 30, 31, 32, 33, 34, 35]
def sg (t : Nat) : Nat := sgL.getD t 0
theorem sg_ok : ∀ t, t < 37 → 1 ≤ t → sg t < 36 ∧ lenI t = (wLn (sg t) : Int) ∧ wLn (sg t) ≤ 20 := by decide +kernel
theorem sg_ch : ∀ t, t < 37 → 1 ≤ t → ∀ j, j < wLn (sg t) → chS t j = chS 0 (wS (sg t) + j) ∧ 0 ≤ chS t j ∧ chS t j ≤ 127 := by decide +kernel
theorem wS_no : ∀ w, w < 36 → ∀ v, v < 36 → w ≠ v → wLn w = wLn v → ∃ j, j < wLn w ∧ chS 0 (wS w + j) ≠ chS 0 (wS v + j) := by decide +kernel
theorem eqW_in {B : Nat → Int} {s p : Nat} : ∀ m j, eqW B s p m j = true ↔ ∀ i, j ≤ i → i < j + m → chS 0 (s + i) = B (p + i) := by
  intro m
  induction m with
  | zero => intro j; exact ⟨fun _ i h1 h2 => by omega, fun _ => rfl⟩
  | succ m ih =>
    intro j
    rw [eqW, Bool.and_eq_true, ih (j + 1), decide_eq_true_eq]
    constructor
    · intro h i h1 h2
      by_cases z : i = j
      · rw [z]; exact h.1
      · exact h.2 i (by omega) (by omega)
    · intro h
      exact ⟨h j (Nat.le_refl _) (by omega), fun i h1 h2 => h i (by omega) (by omega)⟩
theorem wm_in {B : Nat → Int} {p e w : Nat} : wm B p e w = true ↔ wLn w = e - p ∧ ∀ i, i < e - p → chS 0 (wS w + i) = B (p + i) := by
  unfold wm
  rw [Bool.and_eq_true, decide_eq_true_eq, eqW_in]
  exact ⟨fun h => ⟨h.1, fun i hi => h.2 i (Nat.zero_le _) (by omega)⟩, fun h => ⟨h.1, fun i _ hi => h.2 i (by omega)⟩⟩
theorem wm_one {B : Nat → Int} {p e w v : Nat} (hw : w < 36) (hv : v < 36) (h1 : wm B p e w = true) (h2 : wm B p e v = true) : w = v := by
  obtain ⟨a1, a2⟩ := wm_in.mp h1
  obtain ⟨b1, b2⟩ := wm_in.mp h2
  rcases Nat.decEq w v with z | z
  · obtain ⟨j, c1, c2⟩ := wS_no w hw v hv z (by omega)
    exact absurd ((a2 j (by omega)).trans (b2 j (by omega)).symm) c2
  · exact z
theorem wkF_1 {B : Nat → Int} {p e : Nat} : ∀ m w, w + m = 36 → (∃ v, w ≤ v ∧ v < 36 ∧ wm B p e v = true ∧ wkF B p e m w = 100 + v) ∨ ((∀ v, w ≤ v → v < 36 → wm B p e v = false) ∧ wkF B p e m w = 1) := by
  intro m
  induction m with
  | zero => intro w h; exact Or.inr ⟨fun v a b => by omega, rfl⟩
  | succ m ih =>
    intro w h
    rw [wkF]
    by_cases c : wm B p e w = true
    · rw [if_pos c]; exact Or.inl ⟨w, Nat.le_refl _, by omega, c, rfl⟩
    · rw [if_neg c]
      rcases ih (w + 1) (by omega) with ⟨v, a1, a2, a3, a4⟩ | ⟨a1, a2⟩
      · exact Or.inl ⟨v, by omega, a2, a3, a4⟩
      · refine Or.inr ⟨fun v b1 b2 => ?_, a2⟩
        by_cases z : v = w
        · rw [z]; cases y : wm B p e w
          · rfl
          · exact absurd y c
        · exact a1 v (by omega) b2
theorem wkF_iff {B : Nat → Int} {p e w : Nat} (hw : w < 36) : wm B p e w = true ↔ wkF B p e 36 0 = 100 + (w : Int) := by
  rcases wkF_1 (B := B) (p := p) (e := e) 36 0 rfl with ⟨v, a1, a2, a3, a4⟩ | ⟨a1, a2⟩
  · rw [a4]
    constructor
    · intro h; rw [wm_one hw a2 h a3]
    · intro h; have : v = w := by omega
      rw [← this]; exact a3
  · rw [a2, a1 w (Nat.zero_le _) hw]
    exact ⟨fun h => (by cases h), fun h => by omega⟩
def TxM (G : GS) (B : Nat → Int) (L : Nat) : Prop := gi G 81 43 = L ∧ L ≤ 800 ∧ (∀ k, gi G 117 k = if B k < 0 then B k + 256 else B k) ∧ ∀ k, -128 ≤ B k ∧ B k ≤ 127
theorem is24 {G : GS} {B : Nat → Int} {L : Nat} (hT : TxM G B L) {t p : Nat} (ht : t < 37) (ht1 : 1 ≤ t) (h46 : gi G 81 46 = p) (hpe : p + wLn (sg t) ≤ L) : ∀ (m j n : Nat), j + m = wLn (sg t) → m + 1 < n → f_Model_is_L24 G n t 1 j = some (if eqW B (wS (sg t)) p m j = true then 1 else 0) := by
  obtain ⟨k1, k2, k3⟩ := sg_ok t ht ht1
  obtain ⟨T1, T2, T3, T4⟩ := hT
  intro m
  induction m with
  | zero =>
    intro j n a1 a2
    obtain ⟨n', rfl⟩ : ∃ n', n = n' + 1 := ⟨n - 1, by omega⟩
    rw [f_Model_is_L24, k2, if_pos (by omega), gd, if_pos (Or.inr rfl)]
    rfl
  | succ m ih =>
    intro j n a1 a2
    obtain ⟨n', rfl⟩ : ∃ n', n = n' + 1 := ⟨n - 1, by omega⟩
    obtain ⟨c1, c2, c3⟩ := sg_ch t ht ht1 j (by omega)
    have hw1 : wr ((j : Int) + 1) = ((j + 1 : Nat) : Int) := by rw [wr_of (by omega) (by omega)]; omega
    have hx : wr ((p : Int) + (j : Int)) = ((p + j : Nat) : Int) := by rw [wr_of (by omega) (by omega)]; omega
    have tb := T4 (p + j)
    rw [f_Model_is_L24, k2, if_neg (by omega), if_neg (by decide), h46, hx, gd, if_pos (by omega), gd, if_pos (by omega), Int.toNat_natCast, Int.toNat_natCast, T3, f_Model_is_L60, f_Model_is_L60, hw1, eqW, ← c1]
    by_cases d : chS t j = B (p + j)
    · rw [decide_eq_true d, Bool.true_and, if_pos (show (if B (p + j) < 0 then B (p + j) + 256 else B (p + j)) = chS t j by rw [if_neg (by omega)]; exact d.symm)]
      exact ih (j + 1) n' (by omega) (by omega)
    · rw [decide_eq_false d, Bool.false_and, if_neg (show ¬ (if B (p + j) < 0 then B (p + j) + 256 else B (p + j)) = chS t j by split <;> omega), if_neg (show ¬ (false = true) by decide)]
      obtain ⟨n2, rfl⟩ : ∃ n2, n' = n2 + 1 := ⟨n' - 1, by omega⟩
      rw [f_Model_is_L24]
      split
      · rw [gd, if_pos (Or.inl rfl)]
      · rw [if_pos rfl, gd, if_pos (Or.inl rfl)]
theorem is_M {G : GS} {B : Nat → Int} {L : Nat} (hT : TxM G B L) {t p e : Nat} (ht : t < 37) (ht1 : 1 ≤ t) (h46 : gi G 81 46 = p) (h44 : gi G 81 44 = e) (hpe : p < e) (heL : e ≤ L) : f_Model_is G t = some (if wkF B p e 36 0 = 100 + (sg t : Int) then 1 else 0) := by
  obtain ⟨k1, k2, k3⟩ := sg_ok t ht ht1
  have hL := hT.2.1
  have hi := wkF_iff (B := B) (p := p) (e := e) k1
  unfold f_Model_is
  rw [h44, h46, wr_of (by omega) (by omega), k2]
  by_cases c : wLn (sg t) = e - p
  · rw [if_pos (by omega), f_Model_is_L21]
    have h := is24 hT ht ht1 h46 (by omega) (wLn (sg t)) 0 FU (by omega) (by unfold FU; omega)
    refine Eq.trans h ?_
    have hw : wm B p e (sg t) = eqW B (wS (sg t)) p (wLn (sg t)) 0 := by
      unfold wm; rw [decide_eq_true c, Bool.true_and, c]
    rw [← hw]
    by_cases d : wm B p e (sg t) = true
    · rw [if_pos d, if_pos (hi.mp d)]
    · rw [if_neg d, if_neg (fun z => d (hi.mpr z))]
  · have hw : ¬ wm B p e (sg t) = true := fun z => c (wm_in.mp z).1
    rw [if_neg (by omega), if_neg (fun z => hw (hi.mpr z)), f_Model_is_L21]
    rw [show FU = 39999 + 1 from rfl, f_Model_is_L24]
    split
    · rw [gd, if_pos (Or.inl rfl)]
    · rw [if_pos rfl, gd, if_pos (Or.inl rfl)]
def lawO (K : Int) : Option Int := if ¬ K = 105 then (if ¬ K = 116 then (if ¬ K = 117 then (if ¬ K = 118 then (if ¬ K = 119 then (if ¬ K = 120 then (if ¬ K = 114 then (if ¬ K = 121 then (if ¬ K = 122 then (if ¬ K = 123 then (if ¬ K = 124 then (if ¬ K = 125 then (if ¬ K = 126 then (if ¬ K = 127 then (if ¬ K = 128 then (if ¬ K = 129 then (if ¬ K = 113 then (if ¬ K = 115 then (if ¬ K = 107 then (if ¬ K = 108 then (if ¬ K = 109 then (if ¬ K = 110 then (if ¬ K = 111 then (if ¬ K = 112 then (if ¬ K = 100 then (if ¬ K = 101 then (if ¬ K = 102 then (if ¬ K = 103 then (if ¬ K = 104 then (if ¬ K = 106 then (some 1) else some 207) else some 205) else some 204) else some 203) else some 202) else some 201) else some 162) else some 161) else some 160) else some 152) else some 151) else some 150) else some 20) else some 19) else some 18) else some 17) else some 16) else some 15) else some 14) else some 13) else some 12) else some 11) else some 10) else some 9) else some 8) else some 7) else some 6) else some 5) else some 4) else some 3
def memO (K : Int) : Option Int := if ¬ K = 130 then (if ¬ K = 131 then (if ¬ K = 132 then (if ¬ K = 133 then (if ¬ K = 134 then (if ¬ K = 135 then (some 1) else some 26) else some 25) else some 24) else some 23) else some 22) else some 21
def lawL : List Int := [201, 202, 203, 204, 205, 3, 207, 150, 151, 152, 160, 161, 162, 19, 9, 20, 4, 5, 6, 7, 8, 10, 11, 12, 13, 14, 15, 16, 17, 18, 1, 1, 1, 1, 1, 1]
def memL : List Int := [1, 1, 1, 1, 1, 1, 1, 1, 1, 1, 1, 1, 1, 1, 1, 1, 1, 1, 1, 1, 1, 1, 1, 1, 1, 1, 1, 1, 1, 1, 21, 22, 23, 24, 25, 26]
def lawK (K : Int) : Int := if K < 100 then 1 else lawL.getD (K - 100).toNat 1
def memK (K : Int) : Int := if K < 100 then 1 else memL.getD (K - 100).toNat 1
theorem lawO_w : ∀ w, w < 36 → lawO (100 + (w : Nat)) = some (lawK (100 + (w : Nat))) := by decide +kernel
theorem memO_w : ∀ w, w < 36 → memO (100 + (w : Nat)) = some (memK (100 + (w : Nat))) := by decide +kernel
theorem lawO_K {B : Nat → Int} {p e : Nat} : lawO (wkF B p e 36 0) = some (lawK (wkF B p e 36 0)) := by
  rcases wkF_1 (B := B) (p := p) (e := e) 36 0 rfl with ⟨v, a1, a2, a3, a4⟩ | ⟨a1, a2⟩
  · rw [a4]; exact lawO_w v a2
  · rw [a2]; decide
theorem memO_K {B : Nat → Int} {p e : Nat} : memO (wkF B p e 36 0) = some (memK (wkF B p e 36 0)) := by
  rcases wkF_1 (B := B) (p := p) (e := e) 36 0 rfl with ⟨v, a1, a2, a3, a4⟩ | ⟨a1, a2⟩
  · rw [a4]; exact memO_w v a2
  · rw [a2]; decide
theorem memW_M {G : GS} {B : Nat → Int} {L : Nat} (hT : TxM G B L) {p e : Nat} (h46 : gi G 81 46 = p) (h44 : gi G 81 44 = e) (hpe : p < e) (heL : e ≤ L) : f_Model_memoryWord G = some (memK (wkF B p e 36 0)) := by
  have i31 := is_M hT (t := 31) (by decide) (by decide) h46 h44 hpe heL
  rw [show (100 : Int) + ((sg 31 : Nat) : Int) = 130 by decide] at i31
  have i32 := is_M hT (t := 32) (by decide) (by decide) h46 h44 hpe heL
  rw [show (100 : Int) + ((sg 32 : Nat) : Int) = 131 by decide] at i32
  have i33 := is_M hT (t := 33) (by decide) (by decide) h46 h44 hpe heL
  rw [show (100 : Int) + ((sg 33 : Nat) : Int) = 132 by decide] at i33
  have i34 := is_M hT (t := 34) (by decide) (by decide) h46 h44 hpe heL
  rw [show (100 : Int) + ((sg 34 : Nat) : Int) = 133 by decide] at i34
  have i35 := is_M hT (t := 35) (by decide) (by decide) h46 h44 hpe heL
  rw [show (100 : Int) + ((sg 35 : Nat) : Int) = 134 by decide] at i35
  have i36 := is_M hT (t := 36) (by decide) (by decide) h46 h44 hpe heL
  rw [show (100 : Int) + ((sg 36 : Nat) : Int) = 135 by decide] at i36
  rw [← memO_K]
  generalize wkF B p e 36 0 = K at *
  unfold f_Model_memoryWord memO
  simp only [i31, i32, i33, i34, i35, i36, Option.bind_some, ite01]
theorem lawW_M {G : GS} {B : Nat → Int} {L : Nat} (hT : TxM G B L) {p e : Nat} (h46 : gi G 81 46 = p) (h44 : gi G 81 44 = e) (hpe : p < e) (heL : e ≤ L) : f_Model_lawWord G = some (lawK (wkF B p e 36 0)) := by
  have i1 := is_M hT (t := 1) (by decide) (by decide) h46 h44 hpe heL
  rw [show (100 : Int) + ((sg 1 : Nat) : Int) = 105 by decide] at i1
  have i2 := is_M hT (t := 2) (by decide) (by decide) h46 h44 hpe heL
  rw [show (100 : Int) + ((sg 2 : Nat) : Int) = 116 by decide] at i2
  have i3 := is_M hT (t := 3) (by decide) (by decide) h46 h44 hpe heL
  rw [show (100 : Int) + ((sg 3 : Nat) : Int) = 117 by decide] at i3
  have i4 := is_M hT (t := 4) (by decide) (by decide) h46 h44 hpe heL
  rw [show (100 : Int) + ((sg 4 : Nat) : Int) = 118 by decide] at i4
  have i5 := is_M hT (t := 5) (by decide) (by decide) h46 h44 hpe heL
  rw [show (100 : Int) + ((sg 5 : Nat) : Int) = 119 by decide] at i5
  have i6 := is_M hT (t := 6) (by decide) (by decide) h46 h44 hpe heL
  rw [show (100 : Int) + ((sg 6 : Nat) : Int) = 120 by decide] at i6
  have i7 := is_M hT (t := 7) (by decide) (by decide) h46 h44 hpe heL
  rw [show (100 : Int) + ((sg 7 : Nat) : Int) = 114 by decide] at i7
  have i8 := is_M hT (t := 8) (by decide) (by decide) h46 h44 hpe heL
  rw [show (100 : Int) + ((sg 8 : Nat) : Int) = 121 by decide] at i8
  have i9 := is_M hT (t := 9) (by decide) (by decide) h46 h44 hpe heL
  rw [show (100 : Int) + ((sg 9 : Nat) : Int) = 122 by decide] at i9
  have i10 := is_M hT (t := 10) (by decide) (by decide) h46 h44 hpe heL
  rw [show (100 : Int) + ((sg 10 : Nat) : Int) = 123 by decide] at i10
  have i11 := is_M hT (t := 11) (by decide) (by decide) h46 h44 hpe heL
  rw [show (100 : Int) + ((sg 11 : Nat) : Int) = 124 by decide] at i11
  have i12 := is_M hT (t := 12) (by decide) (by decide) h46 h44 hpe heL
  rw [show (100 : Int) + ((sg 12 : Nat) : Int) = 125 by decide] at i12
  have i13 := is_M hT (t := 13) (by decide) (by decide) h46 h44 hpe heL
  rw [show (100 : Int) + ((sg 13 : Nat) : Int) = 126 by decide] at i13
  have i14 := is_M hT (t := 14) (by decide) (by decide) h46 h44 hpe heL
  rw [show (100 : Int) + ((sg 14 : Nat) : Int) = 127 by decide] at i14
  have i15 := is_M hT (t := 15) (by decide) (by decide) h46 h44 hpe heL
  rw [show (100 : Int) + ((sg 15 : Nat) : Int) = 128 by decide] at i15
  have i16 := is_M hT (t := 16) (by decide) (by decide) h46 h44 hpe heL
  rw [show (100 : Int) + ((sg 16 : Nat) : Int) = 129 by decide] at i16
  have i17 := is_M hT (t := 17) (by decide) (by decide) h46 h44 hpe heL
  rw [show (100 : Int) + ((sg 17 : Nat) : Int) = 113 by decide] at i17
  have i18 := is_M hT (t := 18) (by decide) (by decide) h46 h44 hpe heL
  rw [show (100 : Int) + ((sg 18 : Nat) : Int) = 115 by decide] at i18
  have i19 := is_M hT (t := 19) (by decide) (by decide) h46 h44 hpe heL
  rw [show (100 : Int) + ((sg 19 : Nat) : Int) = 107 by decide] at i19
  have i20 := is_M hT (t := 20) (by decide) (by decide) h46 h44 hpe heL
  rw [show (100 : Int) + ((sg 20 : Nat) : Int) = 108 by decide] at i20
  have i21 := is_M hT (t := 21) (by decide) (by decide) h46 h44 hpe heL
  rw [show (100 : Int) + ((sg 21 : Nat) : Int) = 109 by decide] at i21
  have i22 := is_M hT (t := 22) (by decide) (by decide) h46 h44 hpe heL
  rw [show (100 : Int) + ((sg 22 : Nat) : Int) = 110 by decide] at i22
  have i23 := is_M hT (t := 23) (by decide) (by decide) h46 h44 hpe heL
  rw [show (100 : Int) + ((sg 23 : Nat) : Int) = 111 by decide] at i23
  have i24 := is_M hT (t := 24) (by decide) (by decide) h46 h44 hpe heL
  rw [show (100 : Int) + ((sg 24 : Nat) : Int) = 112 by decide] at i24
  have i25 := is_M hT (t := 25) (by decide) (by decide) h46 h44 hpe heL
  rw [show (100 : Int) + ((sg 25 : Nat) : Int) = 100 by decide] at i25
  have i26 := is_M hT (t := 26) (by decide) (by decide) h46 h44 hpe heL
  rw [show (100 : Int) + ((sg 26 : Nat) : Int) = 101 by decide] at i26
  have i27 := is_M hT (t := 27) (by decide) (by decide) h46 h44 hpe heL
  rw [show (100 : Int) + ((sg 27 : Nat) : Int) = 102 by decide] at i27
  have i28 := is_M hT (t := 28) (by decide) (by decide) h46 h44 hpe heL
  rw [show (100 : Int) + ((sg 28 : Nat) : Int) = 103 by decide] at i28
  have i29 := is_M hT (t := 29) (by decide) (by decide) h46 h44 hpe heL
  rw [show (100 : Int) + ((sg 29 : Nat) : Int) = 104 by decide] at i29
  have i30 := is_M hT (t := 30) (by decide) (by decide) h46 h44 hpe heL
  rw [show (100 : Int) + ((sg 30 : Nat) : Int) = 106 by decide] at i30
  rw [← lawO_K]
  generalize wkF B p e 36 0 = K at *
  unfold f_Model_lawWord lawO
  simp only [i1, i2, i3, i4, i5, i6, i7, i8, i9, i10, i11, i12, i13, i14, i15, i16, i17, i18, i19, i20, i21, i22, i23, i24, i25, i26, i27, i28, i29, i30, Option.bind_some, ite01]
