/-! C: pure lean from here on. Reading behind writing, numbers in range, the invariant. -/
theorem gi_si (G : GS) (c k c' k' : Nat) (v : Int) : gi (si G c k v) c' k' = if c' = c ∧ k' = k then wr v else gi G c' k' := by
  unfold gi si
  by_cases h : c' = c ∧ k' = k
  · simp [h]
  · simp only [if_neg h]
theorem gl_sl (G : GS) (c k c' k' : Nat) (v : Int) : gl (sl G c k v) c' k' = if c' = c ∧ k' = k then wl v else gl G c' k' := by
  unfold gl sl
  by_cases h : c' = c ∧ k' = k
  · simp [h]
  · simp only [if_neg h]
theorem gp_sp (G : GS) (c k c' k' v : Nat) : gp (sp G c k v) c' k' = if c' = c ∧ k' = k then v else gp G c' k' := by
  unfold gp sp
  rfl
theorem gi_sl (G : GS) (c k c' k' : Nat) (v : Int) : gi (sl G c k v) c' k' = gi G c' k' := rfl
theorem gi_sp (G : GS) (c k c' k' v : Nat) : gi (sp G c k v) c' k' = gi G c' k' := rfl
theorem gl_si (G : GS) (c k c' k' : Nat) (v : Int) : gl (si G c k v) c' k' = gl G c' k' := rfl
theorem gl_sp (G : GS) (c k c' k' v : Nat) : gl (sp G c k v) c' k' = gl G c' k' := rfl
theorem gp_si (G : GS) (c k c' k' : Nat) (v : Int) : gp (si G c k v) c' k' = gp G c' k' := rfl
theorem gp_sl (G : GS) (c k c' k' : Nat) (v : Int) : gp (sl G c k v) c' k' = gp G c' k' := rfl
theorem gi_ne {G : GS} {c k c' k' : Nat} {v : Int} (h : c' ≠ c) : gi (si G c k v) c' k' = gi G c' k' := by rw [gi_si, if_neg (fun q => h q.1)]
theorem gi_sm {G : GS} {c k k' : Nat} {v : Int} : gi (si G c k v) c k' = if k' = k then wr v else gi G c k' := by rw [gi_si]; simp
theorem gi_lo (G : GS) (c k : Nat) : -2147483648 ≤ gi G c k := by have := Int32.le_toInt (Int32.ofInt (G.1 c k)); exact this
theorem gi_hi (G : GS) (c k : Nat) : gi G c k < 2147483648 := by have := Int32.toInt_lt (Int32.ofInt (G.1 c k)); exact this
theorem wr_lo {x : Int} (h : wr x = x) : -2147483648 ≤ x := by have := Int32.le_toInt (Int32.ofInt x); rw [← h]; exact this
theorem wr_hi {x : Int} (h : wr x = x) : x < 2147483648 := by have := Int32.toInt_lt (Int32.ofInt x); rw [← h]; exact this
/-- cells alike in class and reference -/
def eqC : List (Nat × Nat) := [(82, 2), (83, 3), (84, 4), (85, 5), (86, 6), (87, 7), (88, 8), (89, 25), (90, 10), (91, 11), (92, 12), (93, 13), (94, 14), (95, 74), (123, 39), (124, 40), (125, 41), (126, 42), (127, 43), (128, 44), (130, 24), (135, 46)]
def eqS : List ((Nat × Nat) × (Nat × Nat)) := [((81, 0), (0, 14)), ((81, 1), (1, 7)), ((81, 10), (9, 5)), ((81, 16), (0, 12)), ((81, 43), (15, 1)), ((81, 50), (15, 8)), ((81, 52), (15, 9)), ((81, 66), (38, 6))]
def InvE (G : GS) : Prop := (∀ q ∈ eqC, ∀ k, gi G q.1 k = gi G q.2 k) ∧ ∀ q ∈ eqS, gi G q.1.1 q.1.2 = gi G q.2.1 q.2.2
theorem InvE_fr {G G' : GS} (hc : ∀ q ∈ eqC, ∀ k, (gi G' q.1 k = gi G q.1 k ∧ gi G' q.2 k = gi G q.2 k) ∨ gi G' q.1 k = gi G' q.2 k) (hs : ∀ q ∈ eqS, (gi G' q.1.1 q.1.2 = gi G q.1.1 q.1.2 ∧ gi G' q.2.1 q.2.2 = gi G q.2.1 q.2.2) ∨ gi G' q.1.1 q.1.2 = gi G' q.2.1 q.2.2) (h : InvE G) : InvE G' := by
  refine ⟨fun q hq k => ?_, fun q hq => ?_⟩
  · rcases hc q hq k with ⟨h1, h2⟩ | h1
    · rw [h1, h2]; exact h.1 q hq k
    · exact h1
  · rcases hs q hq with ⟨h1, h2⟩ | h1
    · rw [h1, h2]; exact h.2 q hq
    · exact h1
def POK (G : GS) (p : Nat) : Prop := (gi G 2 p = 0 ∨ gi G 2 p = 1) ∧ (gi G 3 p = -1 ∨ (0 ≤ gi G 3 p ∧ gi G 3 p < p ∧ gi G 2 (gi G 3 p).toNat = 0)) ∧ (gi G 4 p = -1 ∨ (0 ≤ gi G 4 p ∧ gi G 4 p < p ∧ gi G 2 (gi G 4 p).toNat = 1)) ∧ (0 ≤ gi G 5 p ∧ gi G 5 p ≤ gi G 6 p ∧ gi G 6 p ≤ gi G 0 14) ∧ (gi G 7 p = -1 ∨ (gi G 5 p ≤ gi G 7 p ∧ gi G 7 p ≤ gi G 0 14)) ∧ (gi G 8 p = -1 ∨ (0 ≤ gi G 8 p ∧ gi G 8 p < gi G 1 7 ∧ gi G 2 (gi G 8 p).toNat = 1)) ∧ (0 ≤ gi G 25 p ∧ gi G 25 p ≤ 24)
def InvP (G : GS) : Prop := 0 ≤ gi G 0 14 ∧ gi G 0 14 ≤ 29999 ∧ 0 ≤ gi G 1 7 ∧ gi G 1 7 ≤ 32 ∧ (∀ p : Nat, (p : Int) < gi G 1 7 → POK G p) ∧ ∀ p : Nat, gi G 1 7 ≤ (p : Int) → gi G 25 p = 0
def LOK (G : GS) (l : Nat) : Prop := (0 ≤ gi G 10 l ∧ gi G 10 l ≤ 3) ∧ (0 ≤ gi G 11 l ∧ gi G 11 l ≤ 2) ∧ (gi G 12 l = -1 ∨ (0 ≤ gi G 12 l ∧ gi G 12 l < gi G 1 7))
def InvL (G : GS) : Prop := 0 ≤ gi G 9 5 ∧ gi G 9 5 ≤ 12 ∧ (∀ l : Nat, (l : Int) < gi G 9 5 → LOK G l) ∧ ∀ k : Nat, (0 ≤ gi G 13 k ∧ gi G 13 k ≤ 99) ∧ (0 ≤ gi G 14 k ∧ gi G 14 k ≤ 99)
def InvR (G : GS) : Prop := 1 ≤ gi G 0 12 ∧ gi G 0 12 ≤ 4 ∧ gi G 74 0 = 0 ∧ (∀ r : Nat, 0 ≤ gi G 74 r ∧ gi G 74 r ≤ 29999) ∧ ∀ r : Nat, ((r + 1 : Nat) : Int) < gi G 0 12 → gi G 74 r < gi G 74 (r + 1)
def SOKe (G : GS) (e : Nat) : Prop := (0 ≤ gi G 39 e ∧ gi G 39 e < gi G 9 5) ∧ (gi G 40 e = -1 ∨ (0 ≤ gi G 40 e ∧ gi G 40 e < gi G 1 7)) ∧ (0 ≤ gi G 41 e ∧ gi G 41 e ≤ gi G 0 14) ∧ (0 ≤ gi G 42 e ∧ gi G 42 e ≤ gi G 0 14) ∧ (gi G 43 e = -1 ∨ (0 ≤ gi G 43 e ∧ gi G 43 e < e)) ∧ (gi G 44 e = -1 ∨ (0 ≤ gi G 44 e ∧ gi G 44 e ≤ gi G 0 14)) ∧ (gi G 44 e = -1 → gi G 43 e = -1 ∨ gi G 44 (gi G 43 e).toNat = -1)
def InvS (G : GS) : Prop := 0 ≤ gi G 38 6 ∧ gi G 38 6 ≤ 100 ∧ ∀ e : Nat, (e : Int) < gi G 38 6 → SOKe G e
theorem InvP_fr {G G' : GS} (h0 : gi G 0 14 ≤ gi G' 0 14) (h1 : gi G' 0 14 ≤ 29999) (h2 : gi G' 1 7 = gi G 1 7) (hi : ∀ c k, (2 ≤ c ∧ c ≤ 8) ∨ c = 25 → gi G' c k = gi G c k) (h : InvP G) : InvP G' := by
  obtain ⟨g1, g2, g3, g4, g5, g6⟩ := h
  refine ⟨by omega, h1, by omega, by omega, fun p hp => ?_, fun p hp => by rw [hi 25 p (by omega)]; exact g6 p (by omega)⟩
  have := g5 p (by omega)
  unfold POK at this ⊢
  simp only [hi 2 _ (by omega), hi 3 _ (by omega), hi 4 _ (by omega), hi 5 _ (by omega), hi 6 _ (by omega), hi 7 _ (by omega), hi 8 _ (by omega), hi 25 _ (by omega), h2]
  omega
theorem InvL_fr {G G' : GS} (h1 : gi G 1 7 ≤ gi G' 1 7) (h2 : gi G' 9 5 = gi G 9 5) (hi : ∀ c k, 10 ≤ c ∧ c ≤ 14 → gi G' c k = gi G c k) (h : InvL G) : InvL G' := by
  obtain ⟨g1, g2, g3, g4⟩ := h
  refine ⟨by omega, by omega, fun l hl => ?_, fun k => by rw [hi 13 k (by omega), hi 14 k (by omega)]; exact g4 k⟩
  have := g3 l (by omega)
  unfold LOK at this ⊢
  simp only [hi 10 _ (by omega), hi 11 _ (by omega), hi 12 _ (by omega)]
  omega
theorem InvR_fr {G G' : GS} (h2 : gi G' 0 12 = gi G 0 12) (hi : ∀ k, gi G' 74 k = gi G 74 k) (h : InvR G) : InvR G' := by
  unfold InvR at h ⊢
  simp only [hi, h2]
  exact h
theorem InvS_fr {G G' : GS} (h0 : gi G 0 14 ≤ gi G' 0 14) (h1 : gi G 1 7 ≤ gi G' 1 7) (h2 : gi G 9 5 ≤ gi G' 9 5) (h3 : gi G' 38 6 = gi G 38 6) (hi : ∀ c k, 39 ≤ c ∧ c ≤ 44 → gi G' c k = gi G c k) (h : InvS G) : InvS G' := by
  obtain ⟨g1, g2, g3⟩ := h
  refine ⟨by omega, by omega, fun e he => ?_⟩
  have := g3 e (by omega)
  unfold SOKe at this ⊢
  simp only [hi 39 _ (by omega), hi 40 _ (by omega), hi 41 _ (by omega), hi 42 _ (by omega), hi 43 _ (by omega), hi 44 _ (by omega)]
  omega
