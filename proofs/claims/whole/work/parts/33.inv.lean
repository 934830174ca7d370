/-! C: pure lean from here on. Reading behind writing, numbers in range, the invariant. -/
theorem gi_si (G : GS) (c k c' k' : Nat) (v : Int) : gi (si G c k v) c' k' = if c' = c ∧ k' = k then wr v else gi G c' k' := by
  unfold gi si
  by_cases h : c' = c ∧ k' = k
  · simp [h]
  · simp only [if_neg h]
theorem gl_sl (G : GS) (c k c' k' : Nat) (v : Int) : gl (sl G c k v) c' k' = if c' = c ∧ k' = k then wl v else gl G c' k' := by
  unfold gl sl
  by_cases h : c' = c ∧ k' = k
  · simp [h]
  · simp only [if_neg h]
theorem gp_sp (G : GS) (c k c' k' v : Nat) : gp (sp G c k v) c' k' = if c' = c ∧ k' = k then v else gp G c' k' := by
  unfold gp sp
  rfl
theorem gi_sl (G : GS) (c k c' k' : Nat) (v : Int) : gi (sl G c k v) c' k' = gi G c' k' := rfl
theorem gi_sp (G : GS) (c k c' k' v : Nat) : gi (sp G c k v) c' k' = gi G c' k' := rfl
theorem gl_si (G : GS) (c k c' k' : Nat) (v : Int) : gl (si G c k v) c' k' = gl G c' k' := rfl
theorem gl_sp (G : GS) (c k c' k' v : Nat) : gl (sp G c k v) c' k' = gl G c' k' := rfl
theorem gp_si (G : GS) (c k c' k' : Nat) (v : Int) : gp (si G c k v) c' k' = gp G c' k' := rfl
theorem gp_sl (G : GS) (c k c' k' : Nat) (v : Int) : gp (sl G c k v) c' k' = gp G c' k' := rfl
theorem gi_ne {G : GS} {c k c' k' : Nat} {v : Int} (h : c' ≠ c) : gi (si G c k v) c' k' = gi G c' k' := by rw [gi_si, if_neg (fun q => h q.1)]
theorem gi_sm {G : GS} {c k k' : Nat} {v : Int} : gi (si G c k v) c k' = if k' = k then wr v else gi G c k' := by rw [gi_si]; simp
theorem gi_lo (G : GS) (c k : Nat) : -2147483648 ≤ gi G c k := by have := Int32.le_toInt (Int32.ofInt (G.1 c k)); exact this
theorem gi_hi (G : GS) (c k : Nat) : gi G c k < 2147483648 := by have := Int32.toInt_lt (Int32.ofInt (G.1 c k)); exact this
theorem wr_lo {x : Int} (h : wr x = x) : -2147483648 ≤ x := by have := Int32.le_toInt (Int32.ofInt x); rw [← h]; exact this
theorem wr_hi {x : Int} (h : wr x = x) : x < 2147483648 := by have := Int32.toInt_lt (Int32.ofInt x); rw [← h]; exact this
/-- cells alike -/
def Eq2 (G : GS) (c d : Nat) : Prop := ∀ k, gi G c k = gi G d k
def InvE (G : GS) : Prop := (Eq2 G 82 2 ∧ Eq2 G 83 3 ∧ Eq2 G 84 4 ∧ Eq2 G 85 5 ∧ Eq2 G 86 6 ∧ Eq2 G 87 7 ∧ Eq2 G 88 8 ∧ Eq2 G 89 25) ∧ (Eq2 G 90 10 ∧ Eq2 G 91 11 ∧ Eq2 G 92 12 ∧ Eq2 G 93 13 ∧ Eq2 G 94 14 ∧ Eq2 G 95 74) ∧ (Eq2 G 123 39 ∧ Eq2 G 124 40 ∧ Eq2 G 125 41 ∧ Eq2 G 126 42 ∧ Eq2 G 127 43 ∧ Eq2 G 128 44) ∧ (Eq2 G 130 24 ∧ Eq2 G 135 46) ∧
  (gi G 81 0 = gi G 0 14 ∧ gi G 81 1 = gi G 1 7 ∧ gi G 81 10 = gi G 9 5 ∧ gi G 81 16 = gi G 0 12 ∧ gi G 81 43 = gi G 15 1 ∧ gi G 81 50 = gi G 15 8 ∧ gi G 81 52 = gi G 15 9 ∧ gi G 81 66 = gi G 38 6)
def POK (G : GS) (p : Nat) : Prop := (gi G 2 p = 0 ∨ gi G 2 p = 1) ∧ (gi G 3 p = -1 ∨ (0 ≤ gi G 3 p ∧ gi G 3 p < p ∧ gi G 2 (gi G 3 p).toNat = 0)) ∧ (gi G 4 p = -1 ∨ (0 ≤ gi G 4 p ∧ gi G 4 p < p ∧ gi G 2 (gi G 4 p).toNat = 1)) ∧ (0 ≤ gi G 5 p ∧ gi G 5 p ≤ gi G 6 p ∧ gi G 6 p ≤ gi G 0 14) ∧ (gi G 7 p = -1 ∨ (gi G 5 p ≤ gi G 7 p ∧ gi G 7 p ≤ gi G 0 14)) ∧ (gi G 8 p = -1 ∨ (0 ≤ gi G 8 p ∧ gi G 8 p < gi G 1 7 ∧ gi G 2 (gi G 8 p).toNat = 1)) ∧ (0 ≤ gi G 25 p ∧ gi G 25 p ≤ 24)
def InvP (G : GS) : Prop := 0 ≤ gi G 0 14 ∧ gi G 0 14 ≤ 29999 ∧ 0 ≤ gi G 1 7 ∧ gi G 1 7 ≤ 32 ∧ (∀ p : Nat, (p : Int) < gi G 1 7 → POK G p) ∧ ∀ p : Nat, gi G 1 7 ≤ (p : Int) → gi G 25 p = 0
def LOK (G : GS) (l : Nat) : Prop := (0 ≤ gi G 10 l ∧ gi G 10 l ≤ 3) ∧ (0 ≤ gi G 11 l ∧ gi G 11 l ≤ 2) ∧ (gi G 12 l = -1 ∨ (0 ≤ gi G 12 l ∧ gi G 12 l < gi G 1 7))
def InvL (G : GS) : Prop := 0 ≤ gi G 9 5 ∧ gi G 9 5 ≤ 12 ∧ (∀ l : Nat, (l : Int) < gi G 9 5 → LOK G l) ∧ ∀ k : Nat, (0 ≤ gi G 13 k ∧ gi G 13 k ≤ 99) ∧ (0 ≤ gi G 14 k ∧ gi G 14 k ≤ 99)
def InvR (G : GS) : Prop := 1 ≤ gi G 0 12 ∧ gi G 0 12 ≤ 4 ∧ gi G 74 0 = 0 ∧ (∀ r : Nat, 0 ≤ gi G 74 r ∧ gi G 74 r ≤ 29999) ∧ ∀ r : Nat, ((r + 1 : Nat) : Int) < gi G 0 12 → gi G 74 r < gi G 74 (r + 1)
def SOKe (G : GS) (e : Nat) : Prop := (0 ≤ gi G 39 e ∧ gi G 39 e < gi G 9 5) ∧ (gi G 40 e = -1 ∨ (0 ≤ gi G 40 e ∧ gi G 40 e < gi G 1 7)) ∧ (0 ≤ gi G 41 e ∧ gi G 41 e ≤ gi G 0 14) ∧ (0 ≤ gi G 42 e ∧ gi G 42 e ≤ gi G 0 14) ∧ (gi G 43 e = -1 ∨ (0 ≤ gi G 43 e ∧ gi G 43 e < e)) ∧ (gi G 44 e = -1 ∨ (0 ≤ gi G 44 e ∧ gi G 44 e ≤ gi G 0 14)) ∧ (gi G 44 e = -1 → gi G 43 e = -1 ∨ gi G 44 (gi G 43 e).toNat = -1)
def InvS (G : GS) : Prop := 0 ≤ gi G 38 6 ∧ gi G 38 6 ≤ 100 ∧ ∀ e : Nat, (e : Int) < gi G 38 6 → SOKe G e
