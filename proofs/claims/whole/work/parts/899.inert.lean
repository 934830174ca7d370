/-! behind a fault the class's reader takes nothing -/
theorem num_no {G : GS} {B : Nat → Int} {L i q : Nat} {m : Int} (h : atC G B L i q) (h8 : gi G 15 8 ≠ 0) : f_Text_takeNumber G m = some (vC B L q, G) := by
  rw [f_Text_takeNumber, value_at h, Option.bind_some, if_neg h8, f_Text_takeNumber_L30, take_no h8]; rfl
theorem oneOf_no {G : GS} {B : Nat → Int} {L i q : Nat} {a n : Int} (hB : ∀ k, -128 ≤ B k ∧ B k ≤ 127) (h : atC G B L i q) (h8 : gi G 15 8 ≠ 0) (ha : 1 ≤ a ∧ a ≤ 200) (hn : 0 < n ∧ n ≤ 20) : ∃ d, (0 ≤ d ∧ d < n) ∧ f_Text_takeOneOf G a n = some (d, G) := by
  have kb := kC_in hB L q
  rw [f_Text_takeOneOf, kind_at h, Option.bind_some, wr_of (x := kC B L q - a) (by omega) (by omega)]
  by_cases c1 : kC B L q - a < 0
  · exact ⟨0, by omega, by rw [if_pos c1, f_Text_takeOneOf_L16, fail_no h8]; rfl⟩
  · rw [if_neg c1]
    by_cases c2 : kC B L q - a < n
    · exact ⟨kC B L q - a, by omega, by rw [if_pos c2, take_no h8]; rfl⟩
    · exact ⟨0, by omega, by rw [if_neg c2, f_Text_takeOneOf_L16, fail_no h8]; rfl⟩
theorem event_no {G : GS} {B : Nat → Int} {L i q : Nat} (h : atC G B L i q) (h8 : gi G 15 8 ≠ 0) : f_MemoryReader_takeEvent G = some (0, G) := by
  have vb := vC_b B L q
  rw [f_MemoryReader_takeEvent, value_at h, Option.bind_some, kind_at h, Option.bind_some]
  have e38 : ∀ x, f_MemoryReader_takeEvent_L38 G x = some (0, G) := fun x => by
    rw [f_MemoryReader_takeEvent_L38, take_no h8, Option.bind_some, if_neg h8]
  by_cases c : kC B L q = 2
  · rw [if_pos c, f_Remembered_hasEvent, if_neg (show ¬ vC B L q < 0 by omega)]
    by_cases d : 16 ≤ vC B L q
    · rw [if_pos d, Option.bind_some, if_pos rfl, fail_no h8, Option.bind_some, e38]
    · rw [if_neg d, gd, if_pos (by omega)]
      by_cases e : gi G 24 (vC B L q).toNat = -1
      · rw [if_pos e, Option.bind_some, if_pos rfl, fail_no h8, Option.bind_some, e38]
      · rw [if_neg e, Option.bind_some, if_neg (by decide), e38]
  · rw [if_neg c, e38]
