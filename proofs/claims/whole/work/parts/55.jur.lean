/-! juries: the class -/
/-- what l is held of by the first n juries, those with p left out -/
def hF (w : Nat → Int) (p : Nat → Bool) (l : Nat) : Nat → Int
  | 0 => -2
  | n + 1 => if p n = true ∨ w (12 * n + l) = -2 then hF w p l n else w (12 * n + l)
theorem hF_W (w : Nat → Int) (d l : Nat) : heldW w d l = hF w (fun j => d.testBit j) l 10 := rfl
def cv (x : Int) : Int := if x = -2 then -1 else x
def WOK (w : Nat → Int) : Prop := ∀ j l : Nat, j < 10 → l < 12 → w (12 * j + l) = -2 ∨ (-1 ≤ w (12 * j + l) ∧ w (12 * j + l) < 12)
theorem hF_rng {w : Nat → Int} {p : Nat → Bool} {l : Nat} (h : WOK w) (hl : l < 12) : ∀ k, k ≤ 10 → hF w p l k = -2 ∨ (-1 ≤ hF w p l k ∧ hF w p l k < 12) := by
  intro k
  induction k with
  | zero => intro _; exact Or.inl rfl
  | succ k ih =>
    intro hk
    have := h k l (by omega) hl
    have := ih (by omega)
    unfold hF
    split <;> assumption
def restOK (rest : Int) (p : Nat → Bool) : Prop := ∀ j, j < 32 → tb rest j = (decide (j < 10) && !p j)
theorem lay_in {k10 : GS → Int → Int → Option GS} {rest : Int} {j : Nat} (hj : j < 10) (hb : tb rest j = true) : ∀ (n : Nat) (G : GS) (l : Nat), l ≤ 12 → 12 - l < n → ∃ G1, f_Juries_layHeld_L18 k10 n G rest j l = k10 G1 rest ((j + 1 : Nat) : Int) ∧ (∀ c k, c ≠ 48 → gi G1 c k = gi G c k) ∧ (∀ c k, gp G1 c k = gp G c k) ∧ ∀ i : Nat, i < 12 → gi G1 48 i = if i < l then gi G 48 i else if gi G 46 (12 * j + i) = -2 then gi G 48 i else gi G 46 (12 * j + i) := by
  intro n
  induction n with
  | zero => intro G l q1 q2; omega
  | succ n ih =>
    intro G l q1 q2
    have hw : wr ((j : Int) + 1) = ((j + 1 : Nat) : Int) := by rw [wr_of (by omega) (by omega)]; omega
    by_cases hi : (12 : Int) ≤ l
    · refine ⟨G, ?_, fun _ _ _ => rfl, fun _ _ => rfl, fun i h => by rw [if_pos (by omega)]⟩
      simp only [f_Juries_layHeld_L18, if_pos hi, f_Juries_layHeld_L75, hw]
    · have hw1 : wr ((j : Int) * 12 + l) = ((12 * j + l : Nat) : Int) := by rw [wr_of (by omega) (by omega)]; omega
      have hwl : wr ((l : Int) + 1) = ((l + 1 : Nat) : Int) := by rw [wr_of (by omega) (by omega)]; omega
      have hnb : ¬ bAnd rest (bShl 1 (j : Int)) = 0 := fun z => by
        rw [and_bit (by omega)] at z; rw [hb] at z; cases z
      have g1 : (0 : Int) ≤ ((12 * j + l : Nat) : Int) ∧ ((12 * j + l : Nat) : Int) < 120 := by omega
      have g2 : (0 : Int) ≤ (l : Int) ∧ (l : Int) < 12 := by omega
      have key : ∀ v : Int, wr v = v → v = (if gi G 46 (12 * j + l) = -2 then gi G 48 l else gi G 46 (12 * j + l)) → ∃ G1, f_Juries_layHeld_L68 k10 (f_Juries_layHeld_L18 k10 n) G rest j l v l = k10 G1 rest ((j + 1 : Nat) : Int) ∧ (∀ c k, c ≠ 48 → gi G1 c k = gi G c k) ∧ (∀ c k, gp G1 c k = gp G c k) ∧ ∀ i : Nat, i < 12 → gi G1 48 i = if i < l then gi G 48 i else if gi G 46 (12 * j + i) = -2 then gi G 48 i else gi G 46 (12 * j + i) := by
        intro v hv hv2
        have v1 : gi (si G 48 l v) 48 l = v := by rw [gi_si, if_pos ⟨rfl, rfl⟩]; exact hv
        have v2 : ∀ c k, ¬ (c = 48 ∧ k = l) → gi (si G 48 l v) c k = gi G c k := fun c k q => by rw [gi_si, if_neg q]
        have v3 : ∀ c k, gp (si G 48 l v) c k = gp G c k := fun _ _ => rfl
        simp only [f_Juries_layHeld_L68, gd, if_pos g2, wG, Int.toNat_natCast, hwl]
        generalize si G 48 l v = G' at *
        obtain ⟨G1, r1, r2, r3, r4⟩ := ih G' (l + 1) (by omega) (by omega)
        refine ⟨G1, r1, fun c k q => (r2 c k q).trans (v2 c k (by omega)), fun c k => (r3 c k).trans (v3 c k), fun i h => ?_⟩
        rw [r4 i h]
        rcases Nat.lt_trichotomy i l with z | z | z
        · rw [if_pos (by omega), if_pos z, v2 48 i (by omega)]
        · subst z
          rw [if_pos (by omega), if_neg (by omega), v1, hv2]
        · rw [if_neg (show ¬ i < l + 1 by omega), if_neg (show ¬ i < l by omega), v2 46 _ (by omega), v2 48 i (by omega)]
      by_cases c : gi G 46 (12 * j + l) = -2
      · simp only [f_Juries_layHeld_L18, if_neg hi, if_neg hnb, hw1, gd, if_pos g1, if_pos g2, Int.toNat_natCast, if_pos c]
        exact key _ (wr_gi _ _ _) (by rw [if_pos c])
      · simp only [f_Juries_layHeld_L18, if_neg hi, if_neg hnb, hw1, gd, if_pos g1, Int.toNat_natCast, if_neg c]
        exact key _ (wr_gi _ _ _) (by rw [if_neg c])
theorem lay_out {rest : Int} {p : Nat → Bool} (hp : restOK rest p) {w : Nat → Int} : ∀ (n : Nat) (G : GS) (j : Nat), j ≤ 10 → 10 - j < n → (∀ k, gi G 46 k = w k) → (∀ i, i < 12 → gi G 48 i = cv (hF w p i j)) → ∃ G1, f_Juries_layHeld_L10 n G rest j = some G1 ∧ (∀ c k, c ≠ 48 → gi G1 c k = gi G c k) ∧ (∀ c k, gp G1 c k = gp G c k) ∧ ∀ i, i < 12 → gi G1 48 i = cv (hF w p i 10) := by
  intro n
  induction n with
  | zero => intro G j q1 q2; omega
  | succ n ih =>
    intro G j q1 q2 hw hh
    by_cases hi : (10 : Int) ≤ j
    · have hj : j = 10 := by omega
      subst hj
      exact ⟨G, by simp only [f_Juries_layHeld_L10, if_pos hi], fun _ _ _ => rfl, fun _ _ => rfl, hh⟩
    · have hw1 : wr ((j : Int) + 1) = ((j + 1 : Nat) : Int) := by rw [wr_of (by omega) (by omega)]; omega
      simp only [f_Juries_layHeld_L10, if_neg hi]
      have hpj := hp j (by omega)
      rw [decide_eq_true (by omega), Bool.true_and] at hpj
      by_cases c : p j = true
      · have hz : bAnd rest (bShl 1 (j : Int)) = 0 := by rw [and_bit (by omega), hpj, c]; rfl
        have e : ∀ n', f_Juries_layHeld_L18 (f_Juries_layHeld_L10 n) (n' + 1) G rest j 0 = f_Juries_layHeld_L10 n G rest ((j + 1 : Nat) : Int) := fun n' => by
          simp only [f_Juries_layHeld_L18, if_neg (show ¬ (12 : Int) ≤ 0 by decide), if_pos hz, f_Juries_layHeld_L75, hw1]
        rw [show FU = 39999 + 1 from rfl, e 39999]
        exact ih G (j + 1) (by omega) (by omega) hw (fun i h => by rw [hh i h, show hF w p i (j + 1) = if p j = true ∨ w (12 * j + i) = -2 then hF w p i j else w (12 * j + i) from rfl, if_pos (Or.inl c)])
      · have hb : tb rest j = true := by rw [hpj]; cases h : p j <;> simp_all
        obtain ⟨G1, r1, r2, r3, r4⟩ := lay_in (k10 := f_Juries_layHeld_L10 n) (by omega) hb FU G 0 (by omega) (by unfold FU; omega)
        rw [show ((0 : Nat) : Int) = 0 from rfl] at r1
        rw [r1]
        obtain ⟨G2, u1, u2, u3, u4⟩ := ih G1 (j + 1) (by omega) (by omega) (fun k => by rw [r2 46 k (by decide)]; exact hw k) (fun i h => by
          rw [r4 i h, if_neg (by omega), hw, hh i h, show hF w p i (j + 1) = if p j = true ∨ w (12 * j + i) = -2 then hF w p i j else w (12 * j + i) from rfl]
          by_cases z : w (12 * j + i) = -2
          · rw [if_pos z, if_pos (Or.inr z)]
          · rw [if_neg z, if_neg (by simp [c, z]), cv, if_neg z])
        exact ⟨G2, u1, fun c k q => (u2 c k q).trans (r2 c k q), fun c k => (u3 c k).trans (r3 c k), u4⟩
theorem gi_fill (G : GS) (c N c' k : Nat) (v : Int) : gi (fillG G c N v) c' k = if c' = c ∧ k < N then wr v else gi G c' k := by
  unfold gi fillG
  by_cases h : c' = c ∧ k < N
  · simp [h]
  · simp only [if_neg h]
theorem lay_eq {G : GS} {rest : Int} {p : Nat → Bool} {w : Nat → Int} (hp : restOK rest p) (hw : ∀ k, gi G 46 k = w k) : ∃ G1, f_Juries_layHeld G rest = some G1 ∧ (∀ c k, c ≠ 48 → gi G1 c k = gi G c k) ∧ (∀ c k, gp G1 c k = gp G c k) ∧ ∀ i, i < 12 → gi G1 48 i = cv (hF w p i 10) := by
  have v2 : ∀ c k, c ≠ 48 → gi (fillG G 48 12 (-1)) c k = gi G c k := fun c k q => by rw [gi_fill, if_neg (by omega)]
  have v1 : ∀ i, i < 12 → gi (fillG G 48 12 (-1)) 48 i = -1 := fun i h => by rw [gi_fill, if_pos ⟨rfl, h⟩]; exact wr_of (by decide) (by decide)
  have v3 : ∀ c k, gp (fillG G 48 12 (-1)) c k = gp G c k := fun _ _ => rfl
  unfold f_Juries_layHeld
  simp only [wG]
  generalize fillG G 48 12 (-1) = G' at *
  obtain ⟨G1, r1, r2, r3, r4⟩ := lay_out hp (w := w) FU G' 0 (by omega) (by unfold FU; omega) (fun k => by rw [v2 46 k (by decide)]; exact hw k) (fun i h => by rw [v1 i h]; rfl)
  exact ⟨G1, r1, fun c k q => (r2 c k q).trans (v2 c k q), fun c k => (r3 c k).trans (v3 c k), r4⟩
theorem upW_neg {h : Nat → Int} {m : Int} (hm : m < 0) : ∀ s, upW h s m = m
  | 0 => rfl
  | s + 1 => by show (if m < 0 then m else upW h s (h m.toNat)) = m; rw [if_pos hm]
theorem upW_pos {h : Nat → Int} {m : Int} (hm : 0 ≤ m) (s : Nat) : upW h (s + 1) m = upW h s (h m.toNat) := by
  show (if m < 0 then m else upW h s (h m.toNat)) = _
  rw [if_neg (by omega)]
theorem upW_rng {h : Nat → Int} (hr : ∀ i, i < 12 → h i = -2 ∨ (-1 ≤ h i ∧ h i < 12)) : ∀ (s : Nat) (m : Int), (m = -2 ∨ (-1 ≤ m ∧ m < 12)) → (upW h s m = -2 ∨ (-1 ≤ upW h s m ∧ upW h s m < 12))
  | 0, m, hm => hm
  | s + 1, m, hm => by
    by_cases c : m < 0
    · rw [upW_neg c]; exact hm
    · rw [upW_pos (by omega)]; exact upW_rng hr s _ (hr _ (by omega))
theorem above_L {G : GS} {h : Nat → Int} (hh : ∀ i, i < 12 → gi G 48 i = cv (h i)) (hr : ∀ i, i < 12 → h i = -2 ∨ (-1 ≤ h i ∧ h i < 12)) {x2 : Int} : ∀ (n : Nat) (m : Int) (k s : Nat), (m = -2 ∨ (-1 ≤ m ∧ m < 12)) → 12 - k < n → (s : Int) = (if x2 ≤ 12 then x2 else 12) - k → f_Juries_above_L10 G n x2 (cv m) k = some (cv (upW h s m)) := by
  intro n
  induction n with
  | zero => intro m k s q1 q2; omega
  | succ n ih =>
    intro m k s q1 q2 q3
    by_cases c1 : (12 : Int) ≤ k
    · have : s = 0 := by split at q3 <;> omega
      subst this
      simp only [f_Juries_above_L10, if_pos c1]
      rfl
    · by_cases c2 : x2 ≤ k
      · have : s = 0 := by split at q3 <;> omega
        subst this
        simp only [f_Juries_above_L10, if_neg c1, if_pos c2]
        rfl
      · by_cases c3 : m < 0
        · have e : cv m = -1 := by unfold cv; split <;> omega
          simp only [f_Juries_above_L10, if_neg c1, if_neg c2, e, if_true]
          rw [upW_neg c3, e]
        · have e : cv m = m := by unfold cv; rw [if_neg (by omega)]
          have hw : wr ((k : Int) + 1) = ((k + 1 : Nat) : Int) := by rw [wr_of (by omega) (by omega)]; omega
          obtain ⟨s', rfl⟩ : ∃ s', s = s' + 1 := ⟨s - 1, by split at q3 <;> omega⟩
          simp only [f_Juries_above_L10, if_neg c1, if_neg c2, e, if_neg (show ¬ m = -1 by omega), gd, if_pos (show 0 ≤ m ∧ m < 12 by omega), hh _ (show m.toNat < 12 by omega), hw]
          rw [upW_pos (by omega)]
          exact ih _ (k + 1) s' (hr _ (by omega)) (by omega) (by split at q3 <;> split <;> omega)
theorem above_eq {G : GS} {h : Nat → Int} (hh : ∀ i, i < 12 → gi G 48 i = cv (h i)) (hr : ∀ i, i < 12 → h i = -2 ∨ (-1 ≤ h i ∧ h i < 12)) {l : Nat} (hl : l < 12) {x2 : Int} {s : Nat} (hs : (s : Int) = if x2 ≤ 12 then x2 else 12) : f_Juries_above G l x2 = some (cv (upW h (s + 1) l)) := by
  unfold f_Juries_above
  rw [gd, if_pos (by omega), Int.toNat_natCast, hh l hl, upW_pos (by omega), Int.toNat_natCast]
  exact above_L hh hr FU (h l) 0 s (hr l hl) (by unfold FU; omega) (by omega)
theorem peace42 {G : GS} {h : Nat → Int} (hh : ∀ i, i < 12 → gi G 48 i = cv (h i)) (hr : ∀ i, i < 12 → h i = -2 ∨ (-1 ≤ h i ∧ h i < 12)) : ∀ (n l : Nat), l ≤ 12 → 12 - l < n → ∃ r : Int, f_Juries_isAtPeace_L42 n G l = some (r, G) ∧ (r = 0 ∨ r = 1) ∧ (r = 1 ↔ ∀ i, l ≤ i → i < 12 → upW h 12 (i : Int) < 0) := by
  intro n
  induction n with
  | zero => intro l q1 q2; omega
  | succ n ih =>
    intro l q1 q2
    by_cases c1 : (12 : Int) ≤ l
    · exact ⟨1, by simp only [f_Juries_isAtPeace_L42, if_pos c1], Or.inr rfl, by constructor; (intro _ i a b; omega); (intro _; rfl)⟩
    · have ha := above_eq hh hr (l := l) (by omega) (x2 := 11) (s := 11) (by decide)
      have hu := upW_rng hr 12 (l : Int) (by omega)
      have hw : wr ((l : Int) + 1) = ((l + 1 : Nat) : Int) := by rw [wr_of (by omega) (by omega)]; omega
      by_cases c2 : upW h 12 (l : Int) < 0
      · have e : cv (upW h (11 + 1) (l : Int)) = -1 := by show cv (upW h 12 (l : Int)) = -1; unfold cv; split <;> omega
        obtain ⟨r, r1, r2, r3⟩ := ih (l + 1) (by omega) (by omega)
        refine ⟨r, ?_, r2, r3.trans ⟨fun a i b1 b2 => ?_, fun a i b1 b2 => a i (by omega) b2⟩⟩
        · simp only [f_Juries_isAtPeace_L42, if_neg c1, ha, Option.bind_some, e, if_true, hw]
          exact r1
        · by_cases z : i = l
          · rw [z]; exact c2
          · exact a i (by omega) b2
      · have e : ¬ cv (upW h (11 + 1) (l : Int)) = -1 := by show ¬ cv (upW h 12 (l : Int)) = -1; unfold cv; split <;> omega
        refine ⟨0, ?_, Or.inl rfl, ⟨fun z => absurd z (by decide), fun a => absurd (a l (by omega) (by omega)) c2⟩⟩
        simp only [f_Juries_isAtPeace_L42, if_neg c1, ha, Option.bind_some, if_neg e]
def unl (w : Nat → Int) (a b : Nat) : Prop := ∃ l, l < 12 ∧ w (12 * a + l) ≠ -2 ∧ w (12 * b + l) ≠ -2 ∧ w (12 * a + l) ≠ w (12 * b + l)
def AgOK (G : GS) (w : Nat → Int) : Prop := ∀ j, j < 10 → ∀ i, i < 32 → (tb (gi G 47 j) i = true ↔ i < 10 ∧ unl w j i)
theorem peaceL2 {rest : Int} {p : Nat → Bool} (hp : restOK rest p) {w : Nat → Int} (hW : WOK w) {G : GS} (hw : ∀ k, gi G 46 k = w k) (hag : AgOK G w) : ∀ (n j : Nat), j ≤ 10 → 10 - j < n → ∃ (r : Int) (G1 : GS), f_Juries_isAtPeace_L2 n G rest j = some (r, G1) ∧ (r = 0 ∨ r = 1) ∧ (∀ c k, c ≠ 48 → gi G1 c k = gi G c k) ∧ (∀ c k, gp G1 c k = gp G c k) ∧ (r = 1 ↔ (∀ a, j ≤ a → a < 10 → p a = false → ∀ b, b < 10 → p b = false → ¬ unl w a b) ∧ ∀ l : Nat, l < 12 → upW (fun i => hF w p i 10) 12 (l : Int) < 0) := by
  intro n
  induction n with
  | zero => intro j q1 q2; omega
  | succ n ih =>
    intro j q1 q2
    by_cases c1 : (10 : Int) ≤ j
    · obtain ⟨G1, r1, r2, r3, r4⟩ := lay_eq hp hw
      obtain ⟨r, u1, u2, u3⟩ := peace42 (G := G1) (h := fun i => hF w p i 10) r4 (fun i hi => hF_rng hW hi 10 (by omega)) FU 0 (by omega) (by unfold FU; omega)
      refine ⟨r, G1, ?_, u2, r2, r3, u3.trans ⟨fun a => ⟨fun a b => by omega, fun l hl => a l (by omega) hl⟩, fun a i _ b2 => a.2 i b2⟩⟩
      simp only [f_Juries_isAtPeace_L2, if_pos c1, r1, Option.bind_some]
      exact u1
    · have hpj := hp j (by omega)
      rw [decide_eq_true (by omega), Bool.true_and] at hpj
      have hwj : wr ((j : Int) + 1) = ((j + 1 : Nat) : Int) := by rw [wr_of (by omega) (by omega)]; omega
      obtain ⟨r, G1, r1, r2, r3, r4, r5⟩ := ih (j + 1) (by omega) (by omega)
      by_cases c : p j = true
      · have hz : bAnd rest (bShl 1 (j : Int)) = 0 := by rw [and_bit (by omega), hpj, c]; rfl
        refine ⟨r, G1, ?_, r2, r3, r4, r5.trans ⟨fun a => ⟨fun x b1 b2 b3 => a.1 x (by
            by_cases z : x = j
            · rw [z, c] at b3; cases b3
            · omega) b2 b3, a.2⟩, fun a => ⟨fun x b1 => a.1 x (by omega), a.2⟩⟩⟩
        simp only [f_Juries_isAtPeace_L2, if_neg c1, if_pos hz, f_Juries_isAtPeace_L29, hwj]
        exact r1
      · have hb : tb rest j = true := by rw [hpj]; cases h : p j <;> simp_all
        have hpf : p j = false := by cases h : p j <;> simp_all
        have hnb : ¬ bAnd rest (bShl 1 (j : Int)) = 0 := fun z => by
          rw [and_bit (by omega)] at z; rw [hb] at z; cases z
        by_cases d : bAnd (gi G 47 j) rest = 0
        · have d' := (and_z _ _).mp d
          refine ⟨r, G1, ?_, r2, r3, r4, r5.trans ⟨fun a => ⟨fun x b1 b2 b3 => ?_, a.2⟩, fun a => ⟨fun x b1 => a.1 x (by omega), a.2⟩⟩⟩
          · simp only [f_Juries_isAtPeace_L2, if_neg c1, if_neg hnb, gd, if_pos (show (0 : Int) ≤ j ∧ (j : Int) < 10 by omega), Int.toNat_natCast, if_pos d, f_Juries_isAtPeace_L29, hwj]
            exact r1
          · by_cases z : x = j
            · subst z
              intro b b4 b5 b6
              refine d' b (by omega) ⟨(hag x b2 b (by omega)).mpr ⟨b4, b6⟩, ?_⟩
              rw [hp b (by omega), decide_eq_true b4, b5]; rfl
            · exact a.1 x (by omega) b2 b3
        · refine ⟨0, G, ?_, Or.inl rfl, fun _ _ _ => rfl, fun _ _ => rfl, ⟨fun z => absurd z (by decide), fun a => ?_⟩⟩
          · simp only [f_Juries_isAtPeace_L2, if_neg c1, if_neg hnb, gd, if_pos (show (0 : Int) ≤ j ∧ (j : Int) < 10 by omega), Int.toNat_natCast, if_neg d]
          · exfalso
            refine d ((and_z _ _).mpr fun i hi q => ?_)
            have h1 := (hag j (by omega) i hi).mp q.1
            have h2 := q.2
            rw [hp i hi, decide_eq_true h1.1, Bool.true_and] at h2
            exact a.1 j (by omega) (by omega) hpf i h1.1 (by cases h : p i <;> simp_all) h1.2
theorem unl_L {G : GS} {w : Nat → Int} (hw : ∀ k, gi G 46 k = w k) {a b : Nat} (ha : a < 10) (hb : b < 10) : ∀ (n l : Nat), l ≤ 12 → 12 - l < n → ∃ r : Int, f_Juries_areUnlike_L2 G n a b l = some r ∧ (r = 0 ∨ r = 1) ∧ (r = 1 ↔ ∃ i, l ≤ i ∧ i < 12 ∧ w (12 * a + i) ≠ -2 ∧ w (12 * b + i) ≠ -2 ∧ w (12 * a + i) ≠ w (12 * b + i)) := by
  intro n
  induction n with
  | zero => intro l q1 q2; omega
  | succ n ih =>
    intro l q1 q2
    by_cases c1 : (12 : Int) ≤ l
    · refine ⟨0, by simp only [f_Juries_areUnlike_L2, if_pos c1], Or.inl rfl, ⟨fun z => absurd z (by decide), ?_⟩⟩
      rintro ⟨i, h1, h2, -⟩
      omega
    · have hw1 : wr ((a : Int) * 12 + l) = ((12 * a + l : Nat) : Int) := by rw [wr_of (by omega) (by omega)]; omega
      have hw2 : wr ((b : Int) * 12 + l) = ((12 * b + l : Nat) : Int) := by rw [wr_of (by omega) (by omega)]; omega
      have hwl : wr ((l : Int) + 1) = ((l + 1 : Nat) : Int) := by rw [wr_of (by omega) (by omega)]; omega
      obtain ⟨r, r1, r2, r3⟩ := ih (l + 1) (by omega) (by omega)
      have g1 : (0 : Int) ≤ ((12 * a + l : Nat) : Int) ∧ ((12 * a + l : Nat) : Int) < 120 := by omega
      have g2 : (0 : Int) ≤ ((12 * b + l : Nat) : Int) ∧ ((12 * b + l : Nat) : Int) < 120 := by omega
      have go : ¬ (w (12 * a + l) ≠ -2 ∧ w (12 * b + l) ≠ -2 ∧ w (12 * a + l) ≠ w (12 * b + l)) → (r = 1 ↔ ∃ i, l ≤ i ∧ i < 12 ∧ w (12 * a + i) ≠ -2 ∧ w (12 * b + i) ≠ -2 ∧ w (12 * a + i) ≠ w (12 * b + i)) := fun hn => r3.trans ⟨fun ⟨i, h1, h2⟩ => ⟨i, by omega, h2⟩, fun ⟨i, h1, h2, h3⟩ => ⟨i, by
        by_cases z : i = l
        · rw [z] at h3; exact absurd h3 hn
        · omega, h2, h3⟩⟩
      by_cases d1 : w (12 * a + l) = -2
      · refine ⟨r, ?_, r2, go (by simp [d1])⟩
        simp only [f_Juries_areUnlike_L2, if_neg c1, hw1, hw2, gd, if_pos g1, if_pos g2, Int.toNat_natCast, hw, if_pos d1, f_Juries_areUnlike_L57, hwl]
        exact r1
      · by_cases d2 : w (12 * b + l) = -2
        · refine ⟨r, ?_, r2, go (by simp [d2])⟩
          simp only [f_Juries_areUnlike_L2, if_neg c1, hw1, hw2, gd, if_pos g1, if_pos g2, Int.toNat_natCast, hw, if_neg d1, if_pos d2, f_Juries_areUnlike_L57, hwl]
          exact r1
        · by_cases d3 : w (12 * a + l) = w (12 * b + l)
          · refine ⟨r, ?_, r2, go (by simp [d3])⟩
            simp only [f_Juries_areUnlike_L2, if_neg c1, hw1, hw2, gd, if_pos g1, if_pos g2, Int.toNat_natCast, hw, if_neg d1, if_neg d2, if_pos d3, f_Juries_areUnlike_L57, hwl]
            exact r1
          · refine ⟨1, ?_, Or.inr rfl, ⟨fun _ => ⟨l, by omega, by omega, d1, d2, d3⟩, fun _ => rfl⟩⟩
            simp only [f_Juries_areUnlike_L2, if_neg c1, hw1, hw2, gd, if_pos g1, if_pos g2, Int.toNat_natCast, hw, if_neg d1, if_neg d2, if_neg d3]
theorem unl_eq {G : GS} {w : Nat → Int} (hw : ∀ k, gi G 46 k = w k) {a b : Nat} (ha : a < 10) (hb : b < 10) : ∃ r : Int, f_Juries_areUnlike G a b = some r ∧ (r = 0 ∨ r = 1) ∧ (r = 1 ↔ unl w a b) := by
  obtain ⟨r, r1, r2, r3⟩ := unl_L hw ha hb FU 0 (by omega) (by unfold FU; omega)
  exact ⟨r, r1, r2, r3.trans ⟨fun ⟨i, _, h⟩ => ⟨i, h⟩, fun ⟨i, h⟩ => ⟨i, by omega, h⟩⟩⟩
theorem ag_in {k2 : GS → Int → Option GS} {w : Nat → Int} {j : Nat} (hj : j < 10) : ∀ (n : Nat) (G : GS) (k : Nat), k ≤ 10 → 10 - k < n → (∀ i, gi G 46 i = w i) → (∀ i, i < 32 → (tb (gi G 47 j) i = true ↔ i < k ∧ unl w j i)) → ∃ G1, f_Juries_setAgainst_L17 k2 n G j k = k2 G1 ((j + 1 : Nat) : Int) ∧ (∀ c i, ¬ (c = 47 ∧ i = j) → gi G1 c i = gi G c i) ∧ (∀ c i, gp G1 c i = gp G c i) ∧ ∀ i, i < 32 → (tb (gi G1 47 j) i = true ↔ i < 10 ∧ unl w j i) := by
  intro n
  induction n with
  | zero => intro G k q1 q2; omega
  | succ n ih =>
    intro G k q1 q2 hw hh
    have hwj : wr ((j : Int) + 1) = ((j + 1 : Nat) : Int) := by rw [wr_of (by omega) (by omega)]; omega
    by_cases c1 : (10 : Int) ≤ k
    · have : k = 10 := by omega
      subst this
      exact ⟨G, by simp only [f_Juries_setAgainst_L17, if_pos c1, hwj], fun _ _ _ => rfl, fun _ _ => rfl, hh⟩
    · have hwk : wr ((k : Int) + 1) = ((k + 1 : Nat) : Int) := by rw [wr_of (by omega) (by omega)]; omega
      have g1 : (0 : Int) ≤ (j : Int) ∧ (j : Int) < 10 := by omega
      obtain ⟨r, r1, r2, r3⟩ := unl_eq hw hj (b := k) (by omega)
      have key : ∀ v : Int, (∀ i, i < 32 → (tb v i = true ↔ i = k ∧ unl w j k)) → ∃ G1, f_Juries_setAgainst_L46 k2 (f_Juries_setAgainst_L17 k2 n) G j k v (gi G 47 j) j = k2 G1 ((j + 1 : Nat) : Int) ∧ (∀ c i, ¬ (c = 47 ∧ i = j) → gi G1 c i = gi G c i) ∧ (∀ c i, gp G1 c i = gp G c i) ∧ ∀ i, i < 32 → (tb (gi G1 47 j) i = true ↔ i < 10 ∧ unl w j i) := by
        intro v hv
        have v1 : gi (si G 47 j (bOr (gi G 47 j) v)) 47 j = bOr (gi G 47 j) v := by rw [gi_si, if_pos ⟨rfl, rfl⟩]; exact wr_or _ _
        have v2 : ∀ c i, ¬ (c = 47 ∧ i = j) → gi (si G 47 j (bOr (gi G 47 j) v)) c i = gi G c i := fun c i q => by rw [gi_si, if_neg q]
        have v3 : ∀ c i, gp (si G 47 j (bOr (gi G 47 j) v)) c i = gp G c i := fun _ _ => rfl
        simp only [f_Juries_setAgainst_L46, gd, if_pos g1, wG, Int.toNat_natCast, hwk]
        generalize si G 47 j (bOr (gi G 47 j) v) = G' at *
        obtain ⟨G1, u1, u2, u3, u4⟩ := ih G' (k + 1) (by omega) (by omega) (fun i => by rw [v2 46 i (by omega)]; exact hw i) (fun i hi => by
          rw [v1, tb_or, Bool.or_eq_true, hh i hi, hv i hi]
          constructor
          · rintro (⟨a, b⟩ | ⟨rfl, b⟩)
            · exact ⟨by omega, b⟩
            · exact ⟨by omega, b⟩
          · rintro ⟨a, b⟩
            by_cases z : i = k
            · right; exact ⟨z, z ▸ b⟩
            · left; exact ⟨by omega, b⟩)
        exact ⟨G1, u1, fun c i q => (u2 c i q).trans (v2 c i q), fun c i => (u3 c i).trans (v3 c i), u4⟩
      rcases r2 with z | z
      · subst z
        simp only [f_Juries_setAgainst_L17, if_neg c1, gd, if_pos g1, r1, Option.bind_some, if_true, Int.toNat_natCast]
        refine key 0 (fun i hi => ?_)
        rw [tb_0]
        constructor
        · intro q; cases q
        · rintro ⟨a, b⟩; exact absurd (r3.mpr b) (by decide)
      · subst z
        simp only [f_Juries_setAgainst_L17, if_neg c1, gd, if_pos g1, r1, Option.bind_some, if_neg (show ¬ (1 : Int) = 0 by decide), Int.toNat_natCast]
        refine key (bShl 1 (k : Int)) (fun i hi => ?_)
        rw [tb_shl (by omega), decide_eq_true_iff]
        exact ⟨fun q => ⟨q, r3.mp rfl⟩, fun q => q.1⟩
theorem ag_out {w : Nat → Int} : ∀ (n : Nat) (G : GS) (j : Nat), j ≤ 10 → 10 - j < n → (∀ i, gi G 46 i = w i) → (∀ a, a < j → ∀ i, i < 32 → (tb (gi G 47 a) i = true ↔ i < 10 ∧ unl w a i)) → ∃ G1, f_Juries_setAgainst_L2 n G j = some G1 ∧ (∀ c i, c ≠ 47 → gi G1 c i = gi G c i) ∧ (∀ c i, gp G1 c i = gp G c i) ∧ AgOK G1 w := by
  intro n
  induction n with
  | zero => intro G j q1 q2; omega
  | succ n ih =>
    intro G j q1 q2 hw hh
    by_cases c1 : (10 : Int) ≤ j
    · exact ⟨G, by simp only [f_Juries_setAgainst_L2, if_pos c1], fun _ _ _ => rfl, fun _ _ => rfl, fun a ha => hh a (by omega)⟩
    · have g1 : (0 : Int) ≤ (j : Int) ∧ (j : Int) < 10 := by omega
      have v1 : gi (si G 47 j 0) 47 j = 0 := by rw [gi_si, if_pos ⟨rfl, rfl⟩]; exact wr_zero
      have v2 : ∀ c i, ¬ (c = 47 ∧ i = j) → gi (si G 47 j 0) c i = gi G c i := fun c i q => by rw [gi_si, if_neg q]
      have v3 : ∀ c i, gp (si G 47 j 0) c i = gp G c i := fun _ _ => rfl
      simp only [f_Juries_setAgainst_L2, if_neg c1, gd, if_pos g1, wG, Int.toNat_natCast]
      generalize si G 47 j 0 = G' at *
      obtain ⟨G1, u1, u2, u3, u4⟩ := ag_in (k2 := f_Juries_setAgainst_L2 n) (w := w) (j := j) (by omega) FU G' 0 (by omega) (by unfold FU; omega) (fun i => by rw [v2 46 i (by omega)]; exact hw i) (fun i hi => by
        rw [v1, tb_0]
        constructor
        · intro q; cases q
        · rintro ⟨a, b⟩; omega)
      rw [show ((0 : Nat) : Int) = 0 from rfl] at u1
      rw [u1]
      obtain ⟨G2, t1, t2, t3, t4⟩ := ih G1 (j + 1) (by omega) (by omega) (fun i => by rw [u2 46 i (by omega), v2 46 i (by omega)]; exact hw i) (fun a ha i hi => by
        by_cases z : a = j
        · rw [z]; exact u4 i hi
        · rw [u2 47 a (by omega), v2 47 a (by omega)]; exact hh a (by omega) i hi)
      exact ⟨G2, t1, fun c i q => by rw [t2 c i q, u2 c i (by omega), v2 c i (by omega)], fun c i => by rw [t3, u3, v3], t4⟩
