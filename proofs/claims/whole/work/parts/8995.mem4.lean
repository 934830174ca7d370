/-! a memory of the class with an offset -/
theorem bS {α : Type} (x : Option α) : (x.bind fun a => some a) = x := by cases x <;> rfl
def offE (p n : Nat) (N : Int) (F : GS) (E : Int) : Option GS := (f_Text_take F 135).bind fun q7 => (f_Text_takeNumber q7 99999).bind fun q8 => (f_Remembered_put q8.2 p n E (wr (((-N) * 360) - q8.1)) (wr (((-N) * 360) + q8.1))).bind fun q9 => f_Text_take q9 59
theorem off_no {F : GS} {B : Nat → Int} {L i q p n : Nat} {N E : Int} (hp : p < 32) (hn : n < 24) (h : atC F B L i q) (h8 : gi F 15 8 ≠ 0) : ∃ u v : Int, offE p n N F E = some (pt F (24 * p + n) E u v) := by
  refine ⟨wr (((-N) * 360) - vC B L q), wr (((-N) * 360) + vC B L q), ?_⟩
  rw [offE, take_no h8, Option.bind_some, num_no h h8, Option.bind_some, put_C hp hn, Option.bind_some, take_no (by rw [pt_gi (by omega)]; exact h8)]
theorem off_C {G : GS} {B : Nat → Int} {L i q p n : Nat} {N : Int} (hp : p < 32) (hn : n < 24) (hL : L ≤ 800) (hN : 0 ≤ N ∧ N ≤ 99999) (h : atC G B L i q) (h8 : gi G 15 8 = 0) : ∃ G', ((f_Text_take G 134).bind fun q5 => (f_MemoryReader_takeEvent q5).bind fun q6 => offE p n N q6.2 q6.1) = some G' ∧ (kC B L q ≠ 134 → CB G G' (24 * p + n) 1 q) ∧ (kC B L q = 134 → (kC B L (nq B L q) ≠ 2 → CB G G' (24 * p + n) 1 (nq B L q)) ∧ (kC B L (nq B L q) = 2 → ¬ evt G 24 B L (nq B L q) → CB G G' (24 * p + n) 2 (nq B L q)) ∧ (kC B L (nq B L q) = 2 → evt G 24 B L (nq B L q) → (kC B L (nq B L (nq B L q)) ≠ 135 → CB G G' (24 * p + n) 1 (nq B L (nq B L q))) ∧ (kC B L (nq B L (nq B L q)) = 135 → (kC B L (nq B L (nq B L (nq B L q))) ≠ 2 → CB G G' (24 * p + n) 1 (nq B L (nq B L (nq B L q)))) ∧ (kC B L (nq B L (nq B L (nq B L q))) = 2 → (kC B L (nq B L (nq B L (nq B L (nq B L q)))) ≠ 59 → CB G G' (24 * p + n) 1 (nq B L (nq B L (nq B L (nq B L q))))) ∧ (kC B L (nq B L (nq B L (nq B L (nq B L q)))) = 59 → CO G G' B L (24 * p + n) (nq B L (nq B L (nq B L (nq B L (nq B L q))))) (vC B L (nq B L q)) (-N * 360 - vC B L (nq B L (nq B L (nq B L q)))) (-N * 360 + vC B L (nq B L (nq B L (nq B L q))))))))) := by
  have lq := h.2.2.1
  have f1 : ∀ (G0 : GS) (j x : Nat) (k : Int), k = 1 ∨ k = 2 → x ≤ 800 → FCm G G0 (24 * p + n) → atC G0 B L j x → (∃ G', ((f_MemoryReader_takeEvent (flt G0 k x)).bind fun q6 => offE p n N q6.2 q6.1) = some G' ∧ CB G G' (24 * p + n) k x) ∧ ∀ E : Int, ∃ G', offE p n N (flt G0 k x) E = some G' ∧ CB G G' (24 * p + n) k x := by
    intro G0 j x k hk hx hF ha
    have hkw : wr k = k := by rcases hk with rfl | rfl <;> rfl
    have h8' : gi (flt G0 k x) 15 8 ≠ 0 := by rw [flt_8 hkw]; omega
    have hf := flt_at (v := k) (x := x) ha
    have h2 : ∀ E : Int, ∃ G', offE p n N (flt G0 k x) E = some G' ∧ CB G G' (24 * p + n) k x := by
      intro E
      obtain ⟨u, v, e⟩ := off_no (N := N) (E := E) hp hn hf h8'
      exact ⟨_, e, (CB_pt hkw hx (by omega)).of hF⟩
    refine ⟨?_, h2⟩
    rw [event_no hf h8', Option.bind_some]
    exact h2 0
  rw [take_at h h8 (by decide), Option.bind_some]
  by_cases c1 : kC B L q = 134
  · rw [if_pos c1]
    have lq0 : q < L := kC_lt (by rw [c1]; decide)
    have l1 := nq_le (B := B) lq0
    have h1 := stp_at h lq0
    have h18 : gi (stp G i) 15 8 = 0 := by rw [stp_gi (by omega)]; exact h8
    have hF1 : FCm G (stp G i) (24 * p + n) := FCm_stp
    have hev : evt (stp G i) 24 B L (nq B L q) ↔ evt G 24 B L (nq B L q) := by unfold evt; rw [stp_gi (by omega)]
    generalize nq B L q = q1 at *
    generalize stp G i = G1 at *
    have vb := vC_b B L q1
    have e0 := event_C h1 h18
    rw [e0, Option.bind_some]
    by_cases c2 : kC B L q1 = 2
    · rw [if_pos c2]
      by_cases c3 : evt G 24 B L q1
      · rw [if_pos (show vC B L q1 < 16 ∧ gi G1 24 (vC B L q1).toNat ≠ -1 from hev.2 c3)]
        have lq1 : q1 < L := kC_lt (by rw [c2]; decide)
        have l2 := nq_le (B := B) lq1
        have h2 := stp_at h1 lq1
        have h28 : gi (stp G1 (i + 1)) 15 8 = 0 := by rw [stp_gi (by omega)]; exact h18
        have hF2 : FCm G (stp G1 (i + 1)) (24 * p + n) := hF1.trans FCm_stp
        dsimp only
        generalize nq B L q1 = q2 at *
        generalize stp G1 (i + 1) = G2 at *
        rw [offE, take_at h2 h28 (by decide), Option.bind_some]
        by_cases c4 : kC B L q2 = 135
        · rw [if_pos c4]
          have lq2 : q2 < L := kC_lt (by rw [c4]; decide)
          have l3 := nq_le (B := B) lq2
          have h3 := stp_at h2 lq2
          have h38 : gi (stp G2 (i + 1 + 1)) 15 8 = 0 := by rw [stp_gi (by omega)]; exact h28
          have hF3 : FCm G (stp G2 (i + 1 + 1)) (24 * p + n) := hF2.trans FCm_stp
          generalize nq B L q2 = q3 at *
          generalize stp G2 (i + 1 + 1) = G3 at *
          have vb3 := vC_b B L q3
          rw [num_at h3 h38, Option.bind_some]
          dsimp only
          by_cases c5 : kC B L q3 = 2
          · rw [if_pos c5, if_pos vb3.2]
            have lq3 : q3 < L := kC_lt (by rw [c5]; decide)
            have l4 := nq_le (B := B) lq3
            have h4 := stp_at h3 lq3
            have h48 : gi (stp G3 (i + 1 + 1 + 1)) 15 8 = 0 := by rw [stp_gi (by omega)]; exact h38
            have hF4 : FCm G (stp G3 (i + 1 + 1 + 1)) (24 * p + n) := hF3.trans FCm_stp
            generalize nq B L q3 = q4 at *
            generalize stp G3 (i + 1 + 1 + 1) = G4 at *
            have w1 : wr (((-N) * 360) - vC B L q3) = -N * 360 - vC B L q3 := wr_of (by omega) (by omega)
            have w2 : wr (((-N) * 360) + vC B L q3) = -N * 360 + vC B L q3 := wr_of (by omega) (by omega)
            rw [w1, w2]
            obtain ⟨G', r1, r2, r3⟩ := end_C (a := vC B L q1) hp hn hL (wr_of (by omega) (by omega)) w1 w2 h4 h48
            exact ⟨G', r1, fun z => absurd c1 z, fun _ => ⟨fun z => absurd c2 z, fun _ z => absurd c3 z, fun _ _ => ⟨fun z => absurd c4 z, fun _ => ⟨fun z => absurd c5 z, fun _ => ⟨fun z => (r3 z).of hF4, fun z => (r2 z).of hF4⟩⟩⟩⟩⟩
          · rw [if_neg c5, put_C hp hn, Option.bind_some, take_no (by rw [pt_gi (by omega), flt_8 (by rfl)]; decide)]
            exact ⟨_, rfl, fun z => absurd c1 z, fun _ => ⟨fun z => absurd c2 z, fun _ z => absurd c3 z, fun _ _ => ⟨fun z => absurd c4 z, fun _ => ⟨fun _ => (CB_pt rfl (by omega)).of hF3, fun z => absurd z c5⟩⟩⟩⟩
        · rw [if_neg c4]
          obtain ⟨G', r1, r2⟩ := (f1 G2 _ q2 1 (Or.inl rfl) (by omega) hF2 h2).2 (vC B L q1)
          rw [offE, take_no (by rw [flt_8 (by rfl)]; decide), Option.bind_some] at r1
          exact ⟨G', r1, fun z => absurd c1 z, fun _ => ⟨fun z => absurd c2 z, fun _ z => absurd c3 z, fun _ _ => ⟨fun _ => r2, fun z => absurd z c4⟩⟩⟩
      · rw [if_neg (show ¬ (vC B L q1 < 16 ∧ gi G1 24 (vC B L q1).toNat ≠ -1) from fun z => c3 (hev.1 z))]
        obtain ⟨G', r1, r2⟩ := (f1 G1 _ q1 2 (Or.inr rfl) (by omega) hF1 h1).2 0
        exact ⟨G', r1, fun z => absurd c1 z, fun _ => ⟨fun z => absurd c2 z, fun _ _ => r2, fun _ z => absurd z c3⟩⟩
    · rw [if_neg c2]
      obtain ⟨G', r1, r2⟩ := (f1 G1 _ q1 1 (Or.inl rfl) (by omega) hF1 h1).2 0
      exact ⟨G', r1, fun z => absurd c1 z, fun _ => ⟨fun _ => r2, fun z => absurd z c2, fun z => absurd z c2⟩⟩
  · rw [if_neg c1]
    obtain ⟨G', r1, r2⟩ := (f1 G _ q 1 (Or.inl rfl) (by omega) ⟨fun _ _ _ _ => rfl, fun _ _ => rfl⟩ h).1
    exact ⟨G', r1, fun _ => r2, fun z => absurd z c1⟩
