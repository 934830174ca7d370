/-! juries: the fewest to doubt -/
noncomputable def fewN (w : Nat → Int) (n : Nat) : Nat := by
  classical exact (List.range n).foldl (fun b d => if pop10 d < pop10 b ∧ peaceW w d then d else b) 1023
theorem fewN_W (w : Nat → Int) : fewW w = fewN w 1023 := rfl
theorem fewN_y {w : Nat → Int} {n : Nat} (h : pop10 n < pop10 (fewN w n) ∧ peaceW w n) : fewN w (n + 1) = n := by
  unfold fewN at h ⊢
  rw [List.range_succ, List.foldl_append]
  simp only [List.foldl_cons, List.foldl_nil]
  rw [if_pos h]
theorem fewN_n {w : Nat → Int} {n : Nat} (h : ¬ (pop10 n < pop10 (fewN w n) ∧ peaceW w n)) : fewN w (n + 1) = fewN w n := by
  unfold fewN at h ⊢
  rw [List.range_succ, List.foldl_append]
  simp only [List.foldl_cons, List.foldl_nil]
  rw [if_neg h]
theorem fewN_lt (w : Nat → Int) : ∀ n, n ≤ 1023 → fewN w n = 1023 ∨ (fewN w n < n ∧ peaceW w (fewN w n)) := by
  intro n
  induction n with
  | zero => intro _; left; rfl
  | succ n ih =>
    intro hn
    by_cases c : pop10 n < pop10 (fewN w n) ∧ peaceW w n
    · rw [fewN_y c]; right; exact ⟨by omega, c.2⟩
    · rw [fewN_n c]
      rcases ih (by omega) with h | h
      · exact Or.inl h
      · exact Or.inr ⟨by omega, h.2⟩
theorem fewN_min (w : Nat → Int) : ∀ n d, d < n → peaceW w d → pop10 (fewN w n) ≤ pop10 d := by
  intro n
  induction n with
  | zero => intro d hd; omega
  | succ n ih =>
    intro d hd hp
    by_cases c : pop10 n < pop10 (fewN w n) ∧ peaceW w n
    · rw [fewN_y c]
      by_cases z : d = n
      · rw [z]; exact Nat.le_refl _
      · have := ih d (by omega) hp; omega
    · rw [fewN_n c]
      by_cases z : d = n
      · subst z
        have : ¬ pop10 d < pop10 (fewN w d) := fun q => c ⟨q, hp⟩
        omega
      · exact ih d (by omega) hp
theorem fewN_lt2 (w : Nat → Int) (n : Nat) (h : n ≤ 1023) : fewN w n < 1024 := by
  rcases fewN_lt w n h with q | q <;> omega
theorem ring_iff {w : Nat → Int} {d : Nat} : ringW w d ↔ ∃ l : Nat, l < 12 ∧ 0 ≤ upW (heldW w d) 12 (l : Int) := by
  constructor
  · rintro ⟨l, hl, h⟩
    have h0 : 0 ≤ l := by
      by_cases c : l < 0
      · rw [upW_neg c] at h; exact h
      · omega
    refine ⟨l.toNat, by omega, ?_⟩
    rw [Int.toNat_of_nonneg h0]
    exact h
  · rintro ⟨l, hl, h⟩
    exact ⟨(l : Int), by omega, h⟩
theorem test1023 : ∀ j, j < 10 → Nat.testBit 1023 j = true := by decide
theorem peace1023 (w : Nat → Int) : peaceW w 1023 := by
  refine ⟨fun j hj k _ l _ h => ?_, ?_⟩
  · rw [test1023 j hj] at h; cases h
  · rw [ring_iff]
    rintro ⟨l, hl, h⟩
    have hz : heldW w 1023 l = -2 := by
      rw [hF_W]
      have : ∀ k, k ≤ 10 → hF w (fun j => Nat.testBit 1023 j) l k = -2 := by
        intro k
        induction k with
        | zero => intro _; rfl
        | succ k ih =>
          intro hk
          rw [show hF w (fun j => Nat.testBit 1023 j) l (k + 1) = if Nat.testBit 1023 k = true ∨ w (12 * k + l) = -2 then hF w (fun j => Nat.testBit 1023 j) l k else w (12 * k + l) from rfl, if_pos (Or.inl (test1023 k (by omega)))]
          exact ih (by omega)
      exact this 10 (by decide)
    rw [show (12 : Nat) = 11 + 1 from rfl, upW_pos (by omega), Int.toNat_natCast, hz, upW_neg (by decide)] at h
    omega
theorem fewW_peace (w : Nat → Int) : peaceW w (fewW w) := by
  rw [fewN_W]
  rcases fewN_lt w 1023 (by decide) with h | h
  · rw [h]; exact peace1023 w
  · exact h.2
set_option maxRecDepth 100000 in
theorem pop_B : ∀ d : Nat, d < 1024 → f_Integer_bitCount gz (d : Int) = some (pop10 d : Int) := by decide +kernel
set_option maxRecDepth 100000 in
theorem pop_M : ∀ d : Nat, d < 1024 → f_Model_bits_L4 gz 11 (d : Int) 0 0 = some (pop10 d : Int) := by decide +kernel
set_option maxRecDepth 100000 in
theorem pop_0 : ∀ d, d < 1024 → (pop10 d = 0 ↔ d = 0) ∧ pop10 d ≤ 10 ∧ (d < 1023 → pop10 d < 10) := by decide +kernel
theorem bits_fu (G G' : GS) : ∀ (n m : Nat) (x a b r : Int), n ≤ m → f_Model_bits_L4 G n x a b = some r → f_Model_bits_L4 G' m x a b = some r := by
  intro n
  induction n with
  | zero => intro m x a b r _ h; simp [f_Model_bits_L4] at h
  | succ n ih =>
    intro m x a b r hm h
    obtain ⟨m', rfl⟩ : ∃ m', m = m' + 1 := ⟨m - 1, by omega⟩
    simp only [f_Model_bits_L4] at h ⊢
    by_cases c : (10 : Int) ≤ b
    · rw [if_pos c] at h ⊢; exact h
    · rw [if_neg c] at h ⊢; exact ih _ _ _ _ _ (by omega) h
theorem bits_eq (G : GS) {d : Nat} (h : d < 1024) : f_Model_bits G (d : Int) = some (pop10 d : Int) := bits_fu gz G 11 FU d 0 0 _ (by unfold FU; omega) (pop_M d h)
theorem bitc_eq (G : GS) {d : Nat} (h : d < 1024) : f_Integer_bitCount G (d : Int) = some (pop10 d : Int) := pop_B d h
theorem rest_ok {D : Nat} (h : D < 1024) : restOK (bAnd 1023 (bXor (D : Int) (-1))) (fun j => D.testBit j) := by
  intro j hj
  rw [tb_and, tb_xor, t1023 j hj, tb_m1 hj, tb_nat (by omega), Bool.xor_true]
theorem peace_iff {w : Nat → Int} {D : Nat} : peaceW w D ↔ (∀ a, a < 10 → D.testBit a = false → ∀ b, b < 10 → D.testBit b = false → ¬ unl w a b) ∧ ∀ l : Nat, l < 12 → upW (heldW w D) 12 (l : Int) < 0 := by
  unfold peaceW
  rw [ring_iff]
  constructor
  · rintro ⟨h1, h2⟩
    refine ⟨fun a ha pa b hb pb ⟨l, hl, q1, q2, q3⟩ => q3 (h1 a ha b hb l hl pa pb q1 q2), fun l hl => ?_⟩
    have : ¬ 0 ≤ upW (heldW w D) 12 (l : Int) := fun z => h2 ⟨l, hl, z⟩
    omega
  · rintro ⟨h1, h2⟩
    refine ⟨fun a ha b hb l hl pa pb q1 q2 => ?_, fun ⟨l, hl, z⟩ => ?_⟩
    · by_cases z : w (12 * a + l) = w (12 * b + l)
      · exact z
      · exact absurd ⟨l, hl, q1, q2, z⟩ (h1 a ha pa b hb pb)
    · have := h2 l hl; omega
theorem peace_eq {w : Nat → Int} (hW : WOK w) {G : GS} (hw : ∀ k, gi G 46 k = w k) (hag : AgOK G w) {D : Nat} (hD : D < 1024) : ∃ (r : Int) (G1 : GS), f_Juries_isAtPeace G (bAnd 1023 (bXor (D : Int) (-1))) = some (r, G1) ∧ (r = 0 ∨ r = 1) ∧ (∀ c k, c ≠ 48 → gi G1 c k = gi G c k) ∧ (∀ c k, gp G1 c k = gp G c k) ∧ (r = 1 ↔ peaceW w D) := by
  obtain ⟨r, G1, r1, r2, r3, r4, r5⟩ := peaceL2 (rest_ok hD) hW hw hag FU 0 (by omega) (by unfold FU; omega)
  refine ⟨r, G1, r1, r2, r3, r4, r5.trans (Iff.trans ?_ peace_iff.symm)⟩
  exact ⟨fun a => ⟨fun x b1 => a.1 x (by omega) b1, a.2⟩, fun a => ⟨fun x _ b1 => a.1 x b1, a.2⟩⟩
def WgOK (G : GS) (w : Nat → Int) : Prop := gi G 45 3 = fewW w ∧ gi G 45 4 = 1 ∧ ∀ l, l < 12 → gi G 48 l = cv (heldW w (fewW w) l)
theorem weigh23 {w : Nat → Int} (hW : WOK w) : ∀ (n : Nat) (G : GS) (d : Nat), d ≤ 1023 → 1023 - d < n → (∀ k, gi G 46 k = w k) → AgOK G w → gi G 45 3 = fewN w d → ∃ G1, f_Juries_weigh_L23 n G 1023 d = some G1 ∧ (∀ c k, c ≠ 48 → ¬ (c = 45 ∧ (k = 3 ∨ k = 4)) → gi G1 c k = gi G c k) ∧ (∀ c k, gp G1 c k = gp G c k) ∧ WgOK G1 w := by
  intro n
  induction n with
  | zero => intro G d q1 q2; omega
  | succ n ih =>
    intro G d q1 q2 hw hag hf
    by_cases c1 : (1023 : Int) ≤ d
    · have : d = 1023 := by omega
      subst this
      rw [← fewN_W] at hf
      have hlt : fewW w < 1024 := by rw [fewN_W]; exact fewN_lt2 w 1023 (by decide)
      obtain ⟨G1, r1, r2, r3, r4⟩ := lay_eq (rest_ok hlt) hw
      have v1 : gi (si G1 45 4 1) 45 4 = 1 := by rw [gi_si, if_pos ⟨rfl, rfl⟩]; exact wr_of (by decide) (by decide)
      have v2 : ∀ c i, ¬ (c = 45 ∧ i = 4) → gi (si G1 45 4 1) c i = gi G1 c i := fun c i q => by rw [gi_si, if_neg q]
      refine ⟨si G1 45 4 1, ?_, fun c k a b => ?_, r3, ?_, v1, fun l hl => ?_⟩
      · simp only [f_Juries_weigh_L23, if_pos c1, hf, r1, Option.bind_some, wG]
      · rw [v2 c k (by omega), r2 c k a]
      · rw [v2 45 3 (by omega), r2 45 3 (by decide), hf]
      · rw [v2 48 l (by omega), r4 l hl, hF_W]
    · have hwd : wr ((d : Int) + 1) = ((d + 1 : Nat) : Int) := by rw [wr_of (by omega) (by omega)]; omega
      have hlt := fewN_lt2 w d q1
      have b1 := bitc_eq G (d := d) (by omega)
      have b2 := bitc_eq G hlt
      by_cases c2 : (pop10 (fewN w d) : Int) ≤ pop10 d
      · obtain ⟨G1, r1, r2⟩ := ih G (d + 1) (by omega) (by omega) hw hag (by rw [fewN_n (fun q => by omega)]; exact hf)
        refine ⟨G1, ?_, r2⟩
        simp only [f_Juries_weigh_L23, if_neg c1, b1, hf, b2, Option.bind_some, if_pos c2, f_Juries_weigh_L47, if_true, f_Juries_weigh_L69, hwd]
        exact r1
      · obtain ⟨r, G1, r1, r2, r3, r4, r5⟩ := peace_eq hW hw hag (D := d) (by omega)
        have hag1 : AgOK G1 w := fun a ha i hi => by rw [r3 47 a (by decide)]; exact hag a ha i hi
        rcases r2 with z | z
        · subst z
          have hnp : ¬ peaceW w d := fun q => absurd (r5.mpr q) (by decide)
          obtain ⟨G2, u1, u2, u3, u4⟩ := ih G1 (d + 1) (by omega) (by omega) (fun k => by rw [r3 46 k (by decide)]; exact hw k) hag1 (by rw [fewN_n (fun q => hnp q.2), r3 45 3 (by decide)]; exact hf)
          refine ⟨G2, ?_, fun c k a b => by rw [u2 c k a b, r3 c k a], fun c k => by rw [u3, r4], u4⟩
          simp only [f_Juries_weigh_L23, if_neg c1, b1, hf, b2, Option.bind_some, if_neg c2, f_Juries_weigh_L47, if_neg (show ¬ (1 : Int) = 0 by decide), r1, if_true, f_Juries_weigh_L69, hwd]
          exact u1
        · subst z
          have hp : peaceW w d := r5.mp rfl
          have v1 : gi (si G1 45 3 d) 45 3 = d := by rw [gi_si, if_pos ⟨rfl, rfl⟩]; exact wr_of (by omega) (by omega)
          have v2 : ∀ c i, ¬ (c = 45 ∧ i = 3) → gi (si G1 45 3 d) c i = gi G1 c i := fun c i q => by rw [gi_si, if_neg q]
          have v3 : ∀ c i, gp (si G1 45 3 d) c i = gp G1 c i := fun _ _ => rfl
          have e : f_Juries_weigh_L23 (n + 1) G 1023 d = f_Juries_weigh_L23 n (si G1 45 3 d) 1023 ((d + 1 : Nat) : Int) := by
            simp only [f_Juries_weigh_L23, if_neg c1, b1, hf, b2, Option.bind_some, if_neg c2, f_Juries_weigh_L47, if_neg (show ¬ (1 : Int) = 0 by decide), r1, wG, f_Juries_weigh_L69, hwd]
          rw [e]
          generalize si G1 45 3 d = G' at *
          obtain ⟨G2, u1, u2, u3, u4⟩ := ih G' (d + 1) (by omega) (by omega) (fun k => by rw [v2 46 k (by omega), r3 46 k (by decide)]; exact hw k) (fun a ha i hi => by rw [v2 47 a (by omega)]; exact hag1 a ha i hi) (by rw [fewN_y ⟨by omega, hp⟩]; exact v1)
          exact ⟨G2, u1, fun c k a b => by rw [u2 c k a b, v2 c k (by omega), r3 c k a], fun c k => by rw [u3, v3, r4], u4⟩
theorem weigh_eq {w : Nat → Int} (hW : WOK w) {G : GS} (hw : ∀ k, gi G 46 k = w k) (h1 : gi G 45 4 = 0 ∨ gi G 45 4 = 1) (h2 : gi G 45 4 = 1 → WgOK G w) : ∃ G1, f_Juries_weigh G = some G1 ∧ (∀ c k, c ≠ 48 → c ≠ 47 → ¬ (c = 45 ∧ (k = 3 ∨ k = 4)) → gi G1 c k = gi G c k) ∧ (∀ c k, gp G1 c k = gp G c k) ∧ WgOK G1 w := by
  by_cases c : gi G 45 4 = 0
  · obtain ⟨G1, r1, r2, r3, r4⟩ := ag_out (w := w) FU G 0 (by omega) (by unfold FU; omega) hw (fun a ha => by omega)
    have v1 : gi (si G1 45 3 1023) 45 3 = 1023 := by rw [gi_si, if_pos ⟨rfl, rfl⟩]; exact wr_of (by decide) (by decide)
    have v2 : ∀ c i, ¬ (c = 45 ∧ i = 3) → gi (si G1 45 3 1023) c i = gi G1 c i := fun c i q => by rw [gi_si, if_neg q]
    have v3 : ∀ c i, gp (si G1 45 3 1023) c i = gp G1 c i := fun _ _ => rfl
    have e : f_Juries_weigh G = f_Juries_weigh_L23 FU (si G1 45 3 1023) 1023 0 := by
      have : f_Juries_setAgainst G = some G1 := r1
      simp only [f_Juries_weigh, if_pos c, this, Option.bind_some, wG]
    rw [e]
    generalize si G1 45 3 1023 = G' at *
    obtain ⟨G2, u1, u2, u3, u4⟩ := weigh23 hW FU G' 0 (by omega) (by unfold FU; omega) (fun k => by rw [v2 46 k (by omega), r2 46 k (by decide)]; exact hw k) (fun a ha i hi => by rw [v2 47 a (by omega)]; exact r4 a ha i hi) v1
    exact ⟨G2, u1, fun c k a b d => by rw [u2 c k a d, v2 c k (by omega), r2 c k b], fun c k => by rw [u3, v3, r3], u4⟩
  · exact ⟨G, by simp only [f_Juries_weigh, if_neg c], fun _ _ _ _ _ => rfl, fun _ _ => rfl, h2 (by omega)⟩
