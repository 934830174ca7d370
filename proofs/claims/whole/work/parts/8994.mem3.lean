/-! a memory of the reference with an offset -/
theorem nq_le {B : Nat → Int} {L q : Nat} (hq : q < L) : nq B L q ≤ L := (rN_b isW B L L (tE B L q) (by omega) (tE_b (B := B) hq).2).2
theorem l214_O {G : GS} {B : Nat → Int} {L q m : Nat} (h : atM G 0 B L q) (hq : q < L) (hL : L ≤ 800) (hm : gi G 81 41 = m) (hm3 : m < 30) (hs : gi G 109 m = 24) : ∃ r G', f_Model_aMemory_L214 G m = some (r, G') ∧ (kC B L (nq B L q) ≠ 2 → r = 0 ∧ MB G G' m 1 (nq B L q)) ∧ (kC B L (nq B L q) = 2 → ¬ evt G 130 B L (nq B L q) → r = 0 ∧ MB G G' m 2 (nq B L q)) ∧ (kC B L (nq B L q) = 2 → evt G 130 B L (nq B L q) → (kC B L (nq B L (nq B L q)) ≠ 135 → r = 0 ∧ MB G G' m 1 (nq B L (nq B L q))) ∧ (kC B L (nq B L (nq B L q)) = 135 → (kC B L (nq B L (nq B L (nq B L q))) ≠ 2 → r = 0 ∧ MB G G' m 1 (nq B L (nq B L (nq B L q)))) ∧ (kC B L (nq B L (nq B L (nq B L q))) = 2 → (kC B L (nq B L (nq B L (nq B L (nq B L q)))) ≠ 59 → r = 0 ∧ MB G G' m 1 (nq B L (nq B L (nq B L (nq B L q))))) ∧ (kC B L (nq B L (nq B L (nq B L (nq B L q)))) = 59 → r = 1 ∧ MO G G' B L m (nq B L (nq B L (nq B L (nq B L (nq B L q))))) 24 (gi G 110 m) (vC B L (nq B L q)) (vC B L (nq B L (nq B L (nq B L q)))))))) := by
  obtain ⟨G1, a1, a2, a3⟩ := next_at h hq
  have l1 : nq B L q ≤ L := nq_le hq
  have hev := evM_of (B := B) (L := L) (q := nq B L q) a2
  rw [f_Model_aMemory_L214, a1, Option.bind_some]
  generalize hq1 : nq B L q = q1 at *
  obtain ⟨e1, e2, e3⟩ := event_M a3
  have k2 := (mM B L q1).2.1
  have vb := vC_b B L q1
  by_cases c1 : kC B L q1 = 2
  · by_cases c2 : evt G 130 B L q1
    · have c2' := hev.2 c2
      obtain ⟨G2, b1, b2, b3⟩ := e1 (k2.2 c1) c2'.1 c2'.2
      have lq1 : q1 < L := kC_lt (by rw [c1]; decide)
      have l2 : nq B L q1 ≤ L := nq_le lq1
      have e54 : gi G2 81 54 = vC B L q1 := by rw [b2.1 81 54 (by omega), gi_si, if_pos ⟨rfl, rfl⟩]; exact wr_of (by omega) (by omega)
      have hG2 : ∀ c j, ¬ (c = 81 ∧ ((44 ≤ j ∧ j ≤ 47) ∨ j = 54)) → gi G2 c j = gi G c j := fun c j z => by rw [b2.1 c j (by omega), gi_si, if_neg (by omega), a2.1 c j (by omega)]
      have hF2 : FM G (si G2 111 m (vC B L q1)) m := (FM_Mx a2).trans (FM_54.trans ((FM_Mx b2).trans (FM_si (by decide))))
      have h3 : atM (si G2 111 m (vC B L q1)) 0 B L (nq B L q1) := atM_sj (by decide) b3
      have h109 : gi (si G2 111 m (vC B L q1)) 109 m = 24 := by rw [gi_ne (by decide), hG2 109 m (by omega)]; exact hs
      have h111 : gi (si G2 111 m (vC B L q1)) 111 m = vC B L q1 := by rw [gi_sm, if_pos rfl]; exact wr_of (by omega) (by omega)
      have hr3 : ∀ c j, ¬ (c = 81 ∧ ((44 ≤ j ∧ j ≤ 47) ∨ j = 54)) → ¬ (c = 111 ∧ j = m) → gi (si G2 111 m (vC B L q1)) c j = gi G c j := fun c j z y => by rw [gi_si, if_neg y, hG2 c j z]
      rw [b1, Option.bind_some, if_neg (n10 G2), gd, if_pos (by omega)]
      simp only [wG, Int.toNat_natCast]
      rw [e54, gd, if_pos (by omega), if_pos h109]
      generalize si G2 111 m (vC B L q1) = G3 at *
      generalize hq2 : nq B L q1 = q2 at *
      obtain ⟨n1, n2⟩ := need_at (a := 26) h3 (by decide)
      have k26 := (mM B L q2).2.2.2.2.2.2.2.2
      by_cases c3 : kC B L q2 = 135
      · obtain ⟨G4, s1, s2, s3⟩ := n1 (k26.2 c3)
        have lq2 : q2 < L := kC_lt (by rw [c3]; decide)
        have l3 : nq B L q2 ≤ L := nq_le lq2
        rw [s1, Option.bind_some, if_neg (n10 G4)]
        generalize hq3 : nq B L q2 = q3 at *
        obtain ⟨t1, t2, t3⟩ := num_M (a := 0) (m := 99999) s3
        have k23 := (mM B L q3).2.1
        have vb3 := vC_b B L q3
        by_cases c4 : kC B L q3 = 2
        · obtain ⟨G5, u1, u2, u3⟩ := t1 (k23.2 c4) vb3
          have lq3 : q3 < L := kC_lt (by rw [c4]; decide)
          have l4 : nq B L q3 ≤ L := nq_le lq3
          have v54 : gi G5 81 54 = vC B L q3 := by rw [u2.1 81 54 (by omega), gi_si, if_pos ⟨rfl, rfl⟩]; exact wr_of (by omega) (by omega)
          have hG5 : ∀ c j, ¬ (c = 81 ∧ ((44 ≤ j ∧ j ≤ 47) ∨ j = 54)) → gi G5 c j = gi G3 c j := fun c j z => by rw [u2.1 c j (by omega), gi_si, if_neg (by omega), s2.1 c j (by omega)]
          have h6 : atM (si G5 112 m (vC B L q3)) 0 B L (nq B L q3) := atM_sj (by decide) u3
          have hF6 : FM G (si G5 112 m (vC B L q3)) m := hF2.trans ((FM_Mx s2).trans (FM_54.trans ((FM_Mx u2).trans (FM_si (by decide)))))
          have hr6 : ∀ c j, ¬ (c = 81 ∧ ((44 ≤ j ∧ j ≤ 47) ∨ j = 54)) → ¬ (c = 112 ∧ j = m) → gi (si G5 112 m (vC B L q3)) c j = gi G3 c j := fun c j z y => by rw [gi_si, if_neg y, hG5 c j z]
          have h112 : gi (si G5 112 m (vC B L q3)) 112 m = vC B L q3 := by rw [gi_sm, if_pos rfl]; exact wr_of (by omega) (by omega)
          rw [u1, Option.bind_some, if_neg (n10 G5), gd, if_pos (by omega)]
          dsimp only
          rw [v54]
          generalize si G5 112 m (vC B L q3) = G6 at *
          generalize hq4 : nq B L q3 = q4 at *
          obtain ⟨r, G', d1, d2, d3⟩ := l280_M h6 (by omega) (by rw [hr6 81 41 (by omega) (by omega), hr3 81 41 (by omega) (by omega)]; exact hm) hm3
          refine ⟨r, G', d1, fun z => absurd c1 z, fun _ z => absurd c2 z, fun _ _ => ⟨fun z => absurd c3 z, fun _ => ⟨fun z => absurd c4 z, fun _ => ⟨fun z => ?_, fun z => ?_⟩⟩⟩⟩
          · exact ⟨(d3 z).1, (d3 z).2.of hF6⟩
          · have := d2 z
            rw [h112, hr6 109 m (by omega) (by omega), h109, hr6 110 m (by omega) (by omega), hr3 110 m (by omega) (by omega), hr6 111 m (by omega) (by omega), h111] at this
            exact ⟨this.1, this.2.of hF6 (by rw [hr6 81 48 (by omega) (by omega), hr3 81 48 (by omega) (by omega)])⟩
        · refine ⟨0, bad G4 1 q3, ?_, fun z => absurd c1 z, fun _ z => absurd c2 z, fun _ _ => ⟨fun z => absurd c3 z, fun _ => ⟨fun _ => ⟨rfl, (MB_bad rfl (by omega)).of (hF2.trans (FM_Mx s2))⟩, fun z => absurd z c4⟩⟩⟩
          rw [t3 (fun z => c4 (k23.1 z))]; rfl
      · refine ⟨0, bad G3 1 q2, ?_, fun z => absurd c1 z, fun _ z => absurd c2 z, fun _ _ => ⟨fun _ => ⟨rfl, (MB_bad rfl (by omega)).of hF2⟩, fun z => absurd z c3⟩⟩
        rw [n2 (fun z => c3 (k26.1 z))]; rfl
    · refine ⟨0, bad G1 2 q1, ?_, fun z => absurd c1 z, fun _ _ => ⟨rfl, (MB_bad rfl (by omega)).of (FM_Mx a2)⟩, fun _ z => absurd z c2⟩
      rw [e2 (k2.2 c1) (fun z => c2 (hev.1 z))]; rfl
  · refine ⟨0, bad G1 1 q1, ?_, fun _ => ⟨rfl, (MB_bad rfl (by omega)).of (FM_Mx a2)⟩, fun z => absurd z c1, fun z => absurd z c1⟩
    rw [e3 (fun z => c1 (k2.1 z))]; rfl
