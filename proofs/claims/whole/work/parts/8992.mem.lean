/-! one memory, both sides -/
theorem mM (B : Nat → Int) (L q : Nat) : (mC 0 B L q = 0 ↔ kC B L q = 0) ∧ (mC 0 B L q = 2 ↔ kC B L q = 2) ∧ (mC 0 B L q = 59 ↔ kC B L q = 59) ∧ (mC 0 B L q = 21 ↔ kC B L q = 130) ∧ (mC 0 B L q = 22 ↔ kC B L q = 131) ∧ (mC 0 B L q = 23 ↔ kC B L q = 132) ∧ (mC 0 B L q = 24 ↔ kC B L q = 133) ∧ (mC 0 B L q = 25 ↔ kC B L q = 134) ∧ (mC 0 B L q = 26 ↔ kC B L q = 135) := by
  rw [mC_mem]
  have hl : ∀ w, w < 36 → (toM (100 + (w : Nat)) = 0 ↔ 100 + (w : Int) = 0) ∧ (toM (100 + (w : Nat)) = 2 ↔ 100 + (w : Int) = 2) ∧ (toM (100 + (w : Nat)) = 59 ↔ 100 + (w : Int) = 59) ∧ (toM (100 + (w : Nat)) = 21 ↔ 100 + (w : Int) = 130) ∧ (toM (100 + (w : Nat)) = 22 ↔ 100 + (w : Int) = 131) ∧ (toM (100 + (w : Nat)) = 23 ↔ 100 + (w : Int) = 132) ∧ (toM (100 + (w : Nat)) = 24 ↔ 100 + (w : Int) = 133) ∧ (toM (100 + (w : Nat)) = 25 ↔ 100 + (w : Int) = 134) ∧ (toM (100 + (w : Nat)) = 26 ↔ 100 + (w : Int) = 135) := by decide +kernel
  rcases kC_k B L q with (h | h | h) | h | ⟨w, hw, h⟩
  · rw [h]; decide
  · rw [h]; decide
  · rw [h]; decide
  · generalize kC B L q = K at h
    unfold toM
    rw [if_neg (by omega)]
    split <;> omega
  · rw [h]; exact hl w hw
-- the class's frame
theorem flt_8n {G : GS} {q : Nat} {v : Int} (h : wr v ≠ 0) : gi (flt G v q) 15 8 ≠ 0 := by unfold flt; rw [gi_si, if_neg (by omega), gi_si, if_pos ⟨rfl, rfl⟩]; exact h
def FCm (G G' : GS) (x : Nat) : Prop := (∀ c j, ¬ (c = 15 ∧ (j = 7 ∨ ((j = 8 ∨ j = 9) ∧ gi G' 15 8 ≠ 0))) → ¬ (26 ≤ c ∧ c ≤ 28 ∧ j = x) → gi G' c j = gi G c j) ∧ ∀ c j, gp G' c j = gp G c j
theorem FCm.trans {G G' G'' : GS} {x : Nat} (h : FCm G G' x) (h' : FCm G' G'' x) : FCm G G'' x := ⟨fun c j a b => by
  have e8 : ¬ (15 = c ∧ 26 ≤ c) := by omega
  have e8' : gi G'' 15 8 = 0 → gi G'' 15 8 = gi G' 15 8 := fun y => h'.1 15 8 (by omega) (by omega)
  by_cases y : gi G'' 15 8 = 0
  · have := e8' y
    rw [h'.1 c j a b, h.1 c j (by omega) b]
  · rw [h'.1 c j a b, h.1 c j (by omega) b], fun c j => by rw [h'.2, h.2]⟩
theorem FCm_stp {G : GS} {x i : Nat} : FCm G (stp G i) x := ⟨fun c j a b => stp_gi (by omega), fun c j => rfl⟩
theorem FCm_flt {G : GS} {x q : Nat} {k : Int} (hk : wr k ≠ 0 := by decide) : FCm G (flt G k q) x := ⟨fun c j a b => flt_gi (by have := flt_8n (G := G) (q := q) hk; omega), fun c j => rfl⟩
theorem FCm_pt {G : GS} {x : Nat} {u v w : Int} : FCm G (pt G x u v w) x := ⟨fun c j a b => by unfold pt; rw [gi_si, if_neg (by omega), gi_si, if_neg (by omega), gi_si, if_neg (by omega)], fun c j => rfl⟩
theorem pt_v {G : GS} {x : Nat} {u v w : Int} (hu : wr u = u) (hv : wr v = v) (hw : wr w = w) : gi (pt G x u v w) 26 x = u ∧ gi (pt G x u v w) 27 x = v ∧ gi (pt G x u v w) 28 x = w := by
  unfold pt
  refine ⟨?_, ?_, ?_⟩
  · rw [gi_ne (by decide), gi_ne (by decide), gi_sm, if_pos rfl, hu]
  · rw [gi_ne (by decide), gi_sm, if_pos rfl, hv]
  · rw [gi_sm, if_pos rfl, hw]
/-- told, or a fault -/
def CO (G G' : GS) (B : Nat → Int) (L x q' : Nat) (a b c : Int) : Prop := FCm G G' x ∧ (∃ i', atC G' B L i' q') ∧ gi G' 15 8 = 0 ∧ gi G' 26 x = a ∧ gi G' 27 x = b ∧ gi G' 28 x = c
def CB (G G' : GS) (x : Nat) (k : Int) (q : Nat) : Prop := FCm G G' x ∧ gi G' 15 8 = k ∧ gi G' 15 9 = q
theorem CO.of {G G0 G' : GS} {B : Nat → Int} {L x q' : Nat} {a b c : Int} (h : FCm G G0 x) (h' : CO G0 G' B L x q' a b c) : CO G G' B L x q' a b c := ⟨h.trans h'.1, h'.2⟩
theorem CB.of {G G0 G' : GS} {x q : Nat} {k : Int} (h : FCm G G0 x) (h' : CB G0 G' x k q) : CB G G' x k q := ⟨h.trans h'.1, h'.2⟩
theorem CB_flt {G : GS} {x q : Nat} {k : Int} (hk : wr k = k) (hq : q ≤ 800) (h0 : k ≠ 0 := by decide) : CB G (flt G k q) x k q := ⟨FCm_flt (by rw [hk]; exact h0), flt_8 hk, flt_9 hq⟩
theorem CB_pt {G : GS} {x q : Nat} {k u v w : Int} (hk : wr k = k) (hq : q ≤ 800) (h0 : k ≠ 0 := by decide) : CB G (pt (flt G k q) x u v w) x k q := ⟨(FCm_flt (by rw [hk]; exact h0)).trans FCm_pt, by rw [pt_gi (by omega)]; exact flt_8 hk, by rw [pt_gi (by omega)]; exact flt_9 hq⟩
/-- put, then the stop -/
theorem end_C {G : GS} {B : Nat → Int} {L i q p n : Nat} {a b c : Int} (hp : p < 32) (hn : n < 24) (hL : L ≤ 800) (ha : wr a = a) (hb : wr b = b) (hc : wr c = c) (h : atC G B L i q) (h8 : gi G 15 8 = 0) : ∃ G', ((f_Remembered_put G p n a b c).bind fun G2 => f_Text_take G2 59) = some G' ∧ (kC B L q = 59 → CO G G' B L (24 * p + n) (nq B L q) a b c) ∧ (kC B L q ≠ 59 → CB G G' (24 * p + n) 1 q) := by
  have h1 : atC (pt G (24 * p + n) a b c) B L i q := pt_at h
  have h81 : gi (pt G (24 * p + n) a b c) 15 8 = 0 := by rw [pt_gi (by omega)]; exact h8
  have hq := h.2.2.1
  have hv := pt_v (G := G) (x := 24 * p + n) ha hb hc
  rw [put_C hp hn, Option.bind_some, take_at h1 h81 (by decide)]
  refine ⟨_, rfl, fun k => ?_, fun k => ?_⟩
  · rw [if_pos k]
    refine ⟨FCm_pt.trans FCm_stp, ⟨_, stp_at h1 (kC_lt (by rw [k]; decide))⟩, by rw [stp_gi (by omega)]; exact h81, ?_, ?_, ?_⟩
    · rw [stp_gi (by omega)]; exact hv.1
    · rw [stp_gi (by omega)]; exact hv.2.1
    · rw [stp_gi (by omega)]; exact hv.2.2
  · rw [if_neg k]
    exact (CB_flt rfl (by omega)).of FCm_pt
def evt (G : GS) (c : Nat) (B : Nat → Int) (L q : Nat) : Prop := vC B L q < 16 ∧ gi G c (vC B L q).toNat ≠ -1
theorem tail_C {G : GS} {B : Nat → Int} {L i q p n : Nat} {b c : Int} (hp : p < 32) (hn : n < 24) (hL : L ≤ 800) (hb : wr b = b) (hc : wr c = c) (h : atC G B L i q) (h8 : gi G 15 8 = 0) : ∃ G', ((f_MemoryReader_takeEvent G).bind fun r => (f_Remembered_put r.2 p n r.1 b c).bind fun G2 => f_Text_take G2 59) = some G' ∧ (kC B L q = 2 → evt G 24 B L q → kC B L (nq B L q) = 59 → CO G G' B L (24 * p + n) (nq B L (nq B L q)) (vC B L q) b c) ∧ (kC B L q = 2 → evt G 24 B L q → kC B L (nq B L q) ≠ 59 → CB G G' (24 * p + n) 1 (nq B L q)) ∧ (kC B L q = 2 → ¬ evt G 24 B L q → CB G G' (24 * p + n) 2 q) ∧ (kC B L q ≠ 2 → CB G G' (24 * p + n) 1 q) := by
  have vb := vC_b B L q
  have hq := h.2.2.1
  have f1 : ∀ k : Int, k = 1 ∨ k = 2 → ((f_Remembered_put (flt G k q) p n 0 b c).bind fun G2 => f_Text_take G2 59) = some (pt (flt G k q) (24 * p + n) 0 b c) := fun k hk => by
    rw [put_C hp hn, Option.bind_some, take_no]
    rw [pt_gi (by omega), flt_8 (by rcases hk with rfl | rfl <;> rfl)]
    omega
  rw [event_C h h8, Option.bind_some]
  by_cases c1 : kC B L q = 2
  · rw [if_pos c1]
    by_cases c2 : evt G 24 B L q
    · rw [if_pos (show vC B L q < 16 ∧ gi G 24 (vC B L q).toNat ≠ -1 from c2)]
      obtain ⟨G', r1, r2, r3⟩ := end_C (a := vC B L q) (b := b) (c := c) hp hn hL (wr_of (by omega) (by omega)) hb hc (stp_at h (kC_lt (by rw [c1]; decide))) (by rw [stp_gi (by omega)]; exact h8)
      exact ⟨G', r1, fun _ _ z => (r2 z).of FCm_stp, fun _ _ z => (r3 z).of FCm_stp, fun _ z => absurd c2 z, fun z => absurd c1 z⟩
    · rw [if_neg (show ¬ (vC B L q < 16 ∧ gi G 24 (vC B L q).toNat ≠ -1) from c2)]
      exact ⟨_, f1 2 (Or.inr rfl), fun _ z => absurd z c2, fun _ z => absurd z c2, fun _ _ => CB_pt rfl (by omega), fun z => absurd c1 z⟩
  · rw [if_neg c1]
    exact ⟨_, f1 1 (Or.inl rfl), fun z => absurd z c1, fun z => absurd z c1, fun z => absurd z c1, fun _ => CB_pt rfl (by omega)⟩
