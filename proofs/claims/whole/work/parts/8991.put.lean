/-! a memory told to the class -/
def pt (G : GS) (x : Nat) (a b c : Int) : GS := si (si (si G 26 x a) 27 x b) 28 x c
theorem pt_gi {G : GS} {x c k : Nat} {u v w : Int} (z : ¬ (26 ≤ c ∧ c ≤ 28)) : gi (pt G x u v w) c k = gi G c k := by unfold pt; rw [gi_ne (by omega), gi_ne (by omega), gi_ne (by omega)]
theorem put_C {G : GS} {p n : Nat} (hp : p < 32) (hn : n < 24) (a b c : Int) : f_Remembered_put G p n a b c = some (pt G (24 * p + n) a b c) := by
  have hx : wr (((p : Int) * 24) + (n : Int)) = ((24 * p + n : Nat) : Int) := by rw [wr_of (by omega) (by omega)]; omega
  have g : (0 : Int) ≤ ((24 * p + n : Nat) : Int) ∧ ((24 * p + n : Nat) : Int) < 768 := by omega
  simp only [f_Remembered_put, hx, gd, if_pos g, wG, Int.toNat_natCast]
  rfl
theorem pt_at {G : GS} {B : Nat → Int} {L i q x : Nat} {u v w : Int} (h : atC G B L i q) : atC (pt G x u v w) B L i q := atC_fr (pt_gi (by omega)) (pt_gi (by omega)) (fun c k a b => pt_gi (by omega)) h
theorem l122_no {G : GS} {B : Nat → Int} {L i q p n : Nat} {s : Int} (hp : p < 32) (hn : n < 24) (h : atC G B L i q) (h8 : gi G 15 8 ≠ 0) : f_MemoryReader_counted_L122 G p n s = some (pt G (24 * p + n) 0 s s) := by
  rw [f_MemoryReader_counted_L122, event_no h h8, Option.bind_some, put_C hp hn]; rfl
theorem counted_no {G : GS} {B : Nat → Int} {L i q p n : Nat} (hB : ∀ k, -128 ≤ B k ∧ B k ≤ 127) (hp : p < 32) (hn : n < 24) (h : atC G B L i q) (h8 : gi G 15 8 ≠ 0) : ∃ s : Int, f_MemoryReader_counted G p n = some (pt G (24 * p + n) 0 s s) := by
  obtain ⟨d, d1, d2⟩ := oneOf_no (a := 130) (n := 2) hB h h8 (by decide) (by decide)
  rw [f_MemoryReader_counted, num_no h h8, Option.bind_some, takeIf_no h8, Option.bind_some, if_pos rfl, take_no h8, Option.bind_some, d2, Option.bind_some]
  by_cases z : d = 0
  · rw [if_pos z]; exact ⟨_, l122_no hp hn h h8⟩
  · rw [if_neg z]; exact ⟨_, l122_no hp hn h h8⟩
