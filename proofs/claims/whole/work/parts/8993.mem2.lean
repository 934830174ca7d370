/-! one memory of the reference -/
theorem n10 (G : GS) : ¬ ((1 : Int), G).1 = 0 := by show ¬ (1 : Int) = 0; decide
def FM (G G' : GS) (m : Nat) : Prop := (∀ c j, ¬ (c = 81 ∧ (j = 41 ∨ (44 ≤ j ∧ j ≤ 49) ∨ j = 54)) → ¬ (109 ≤ c ∧ c ≤ 112 ∧ j = m) → gi G' c j = gi G c j) ∧ ∀ c j, gp G' c j = gp G c j
theorem FM.trans {G G' G'' : GS} {m : Nat} (h : FM G G' m) (h' : FM G' G'' m) : FM G G'' m := ⟨fun c j a b => by rw [h'.1 c j a b, h.1 c j a b], fun c j => by rw [h'.2, h.2]⟩
theorem FM_Mx {G G' : GS} {m : Nat} (h : Mx G G') : FM G G' m := ⟨fun c j a b => h.1 c j (by omega), h.2⟩
theorem FM_54 {G : GS} {m : Nat} {v : Int} : FM G (si G 81 54 v) m := ⟨fun c j a b => by rw [gi_si, if_neg (by omega)], fun _ _ => rfl⟩
theorem FM_41 {G : GS} {m : Nat} {v : Int} : FM G (si G 81 41 v) m := ⟨fun c j a b => by rw [gi_si, if_neg (by omega)], fun _ _ => rfl⟩
theorem FM_bad {G : GS} {m q : Nat} {v : Int} : FM G (bad G v q) m := ⟨fun c j a b => bad_gi (by omega), fun _ _ => rfl⟩
theorem FM_si {G : GS} {m c : Nat} {v : Int} (hc : 109 ≤ c ∧ c ≤ 112) : FM G (si G c m v) m := ⟨fun c' j a b => by rw [gi_si, if_neg (by omega)], fun _ _ => rfl⟩
def MO (G G' : GS) (B : Nat → Int) (L m q' : Nat) (s N E O : Int) : Prop := FM G G' m ∧ atM G' 0 B L q' ∧ gi G' 81 41 = (m : Int) + 1 ∧ gi G' 81 48 = gi G 81 48 ∧ gi G' 109 m = s ∧ gi G' 110 m = N ∧ gi G' 111 m = E ∧ gi G' 112 m = O
def MB (G G' : GS) (m : Nat) (k : Int) (q : Nat) : Prop := FM G G' m ∧ gi G' 81 48 = k ∧ gi G' 81 49 = q
theorem MO.of {G G0 G' : GS} {B : Nat → Int} {L m q' : Nat} {s N E O : Int} (h : FM G G0 m) (h48 : gi G0 81 48 = gi G 81 48) (h' : MO G0 G' B L m q' s N E O) : MO G G' B L m q' s N E O := ⟨h.trans h'.1, h'.2.1, h'.2.2.1, h'.2.2.2.1.trans h48, h'.2.2.2.2⟩
theorem MB.of {G G0 G' : GS} {m q : Nat} {k : Int} (h : FM G G0 m) (h' : MB G0 G' m k q) : MB G G' m k q := ⟨h.trans h'.1, h'.2⟩
theorem MB_bad {G : GS} {m q : Nat} {k : Int} (hk : wr k = k) (hq : q ≤ 800) : MB G (bad G k q) m k q := ⟨FM_bad, bad_48 hk, bad_49 hq⟩
theorem l280_M {G : GS} {B : Nat → Int} {L q m : Nat} (h : atM G 0 B L q) (hq : q ≤ 800) (hm : gi G 81 41 = m) (hm3 : m < 30) : ∃ r G', f_Model_aMemory_L280 G = some (r, G') ∧ (kC B L q = 59 → r = 1 ∧ MO G G' B L m (nq B L q) (gi G 109 m) (gi G 110 m) (gi G 111 m) (gi G 112 m)) ∧ (kC B L q ≠ 59 → r = 0 ∧ MB G G' m 1 q) := by
  have h1 : atM (si G 81 41 ((gi G 81 41) + 1)) 0 B L q := atM_si (by decide) h
  obtain ⟨n1, n2⟩ := need_at (a := 59) h1 (by decide)
  have k59 := (mM B L q).2.2.1
  by_cases c : kC B L q = 59
  · obtain ⟨G', r1, r2, r3⟩ := n1 (k59.2 c)
    refine ⟨1, G', by simp only [f_Model_aMemory_L280, wG, r1, Option.bind_some], fun _ => ⟨rfl, FM_41.trans (FM_Mx r2), r3, ?_, ?_, ?_, ?_, ?_, ?_⟩, fun z => absurd c z⟩
    · rw [r2.1 81 41 (by omega), gi_si, if_pos ⟨rfl, rfl⟩, hm]; exact wr_of (by omega) (by omega)
    all_goals rw [r2.1 _ _ (by omega), gi_si, if_neg (by omega)]
  · refine ⟨0, bad (si G 81 41 ((gi G 81 41) + 1)) 1 q, by simp only [f_Model_aMemory_L280, wG, n2 (fun z => c (k59.1 z)), Option.bind_some], fun z => absurd z c, fun _ => ⟨rfl, (MB_bad rfl hq).of FM_41⟩⟩
theorem evM_of {G G' : GS} {B : Nat → Int} {L q : Nat} (h : Mx G G') : evt G' 130 B L q ↔ evt G 130 B L q := by
  unfold evt
  rw [h.1 130 _ (by omega)]
/-- a memory of one event -/
theorem l214_M {G : GS} {B : Nat → Int} {L q m : Nat} (h : atM G 0 B L q) (hq : q < L) (hL : L ≤ 800) (hm : gi G 81 41 = m) (hm3 : m < 30) (hs : gi G 109 m ≠ 24) : ∃ r G', f_Model_aMemory_L214 G m = some (r, G') ∧ (kC B L (nq B L q) = 2 → evt G 130 B L (nq B L q) → kC B L (nq B L (nq B L q)) = 59 → r = 1 ∧ MO G G' B L m (nq B L (nq B L (nq B L q))) (gi G 109 m) (gi G 110 m) (vC B L (nq B L q)) (gi G 112 m)) ∧ (kC B L (nq B L q) = 2 → evt G 130 B L (nq B L q) → kC B L (nq B L (nq B L q)) ≠ 59 → r = 0 ∧ MB G G' m 1 (nq B L (nq B L q))) ∧ (kC B L (nq B L q) = 2 → ¬ evt G 130 B L (nq B L q) → r = 0 ∧ MB G G' m 2 (nq B L q)) ∧ (kC B L (nq B L q) ≠ 2 → r = 0 ∧ MB G G' m 1 (nq B L q)) := by
  obtain ⟨G1, a1, a2, a3⟩ := next_at h hq
  obtain ⟨e1, e2, e3⟩ := event_M a3
  have k2 := (mM B L (nq B L q)).2.1
  have hev := evM_of (B := B) (L := L) (q := nq B L q) a2
  have vb := vC_b B L (nq B L q)
  have l1 : nq B L q ≤ L := (rN_b isW B L L (tE B L q) (by omega) (tE_b (B := B) hq).2).2
  rw [f_Model_aMemory_L214, a1, Option.bind_some]
  by_cases c1 : kC B L (nq B L q) = 2
  · by_cases c2 : evt G 130 B L (nq B L q)
    · have c2' := hev.2 c2
      obtain ⟨G2, b1, b2, b3⟩ := e1 (k2.2 c1) c2'.1 c2'.2
      have hq1 : nq B L q < L := kC_lt (by rw [c1]; decide)
      have l2 : nq B L (nq B L q) ≤ L := (rN_b isW B L L (tE B L (nq B L q)) (by omega) (tE_b (B := B) hq1).2).2
      have e54 : gi G2 81 54 = vC B L (nq B L q) := by rw [b2.1 81 54 (by omega), gi_si, if_pos ⟨rfl, rfl⟩]; exact wr_of (by omega) (by omega)
      have hG2 : ∀ c j, ¬ (c = 81 ∧ ((44 ≤ j ∧ j ≤ 47) ∨ j = 54)) → gi G2 c j = gi G c j := fun c j z => by rw [b2.1 c j (by omega), gi_si, if_neg (by omega), a2.1 c j (by omega)]
      have h3 : atM (si G2 111 m (vC B L (nq B L q))) 0 B L (nq B L (nq B L q)) := atM_sj (by decide) b3
      have h41 : gi (si G2 111 m (vC B L (nq B L q))) 81 41 = m := by rw [gi_ne (by decide), hG2 81 41 (by omega)]; exact hm
      have h109 : gi (si G2 111 m (vC B L (nq B L q))) 109 m = gi G 109 m := by rw [gi_ne (by decide), hG2 109 m (by omega)]
      have h110 : gi (si G2 111 m (vC B L (nq B L q))) 110 m = gi G 110 m := by rw [gi_ne (by decide), hG2 110 m (by omega)]
      have h112 : gi (si G2 111 m (vC B L (nq B L q))) 112 m = gi G 112 m := by rw [gi_ne (by decide), hG2 112 m (by omega)]
      have h111 : gi (si G2 111 m (vC B L (nq B L q))) 111 m = vC B L (nq B L q) := by rw [gi_sm, if_pos rfl]; exact wr_of (by omega) (by omega)
      have h48 : gi (si G2 111 m (vC B L (nq B L q))) 81 48 = gi G 81 48 := by rw [gi_ne (by decide), hG2 81 48 (by omega)]
      have hF : FM G (si G2 111 m (vC B L (nq B L q))) m := (FM_Mx a2).trans (FM_54.trans ((FM_Mx b2).trans (FM_si (by decide))))
      obtain ⟨r, G', d1, d2, d3⟩ := l280_M h3 (by omega) h41 hm3
      refine ⟨r, G', ?_, fun _ _ z => ?_, fun _ _ z => ?_, fun _ z => absurd c2 z, fun z => absurd c1 z⟩
      · rw [b1, Option.bind_some, if_neg (n10 G2), gd, if_pos (by omega)]
        simp only [wG, Int.toNat_natCast]
        rw [e54, gd, if_pos (by omega), if_neg (show ¬ gi (si G2 111 m (vC B L (nq B L q))) 109 m = 24 by rw [h109]; exact hs), d1]
      · have := d2 z
        rw [h109, h110, h111, h112] at this
        exact ⟨this.1, this.2.of hF h48⟩
      · exact ⟨(d3 z).1, (d3 z).2.of hF⟩
    · refine ⟨0, bad G1 2 (nq B L q), ?_, fun _ z => absurd z c2, fun _ z => absurd z c2, fun _ _ => ⟨rfl, (MB_bad rfl (by omega)).of (FM_Mx a2)⟩, fun z => absurd c1 z⟩
      rw [e2 (k2.2 c1) (fun z => c2 (hev.1 z))]; rfl
  · refine ⟨0, bad G1 1 (nq B L q), ?_, fun z => absurd z c1, fun z => absurd z c1, fun z => absurd z c1, fun _ => ⟨rfl, (MB_bad rfl (by omega)).of (FM_Mx a2)⟩⟩
    rw [e3 (fun z => c1 (k2.1 z))]; rfl
