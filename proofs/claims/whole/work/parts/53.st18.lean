/-! the step of traverse -/
theorem trav_lock {now cnt : Int} (hn : 0 ≤ now ∧ now ≤ 29999) (hc : 0 ≤ cnt ∧ cnt ≤ 100) : ∀ (n : Nat) (GC GM : GS) (x i : Int), 0 ≤ i → i ≤ cnt → cnt - i < n → 0 ≤ x → x ≤ i → gi GC 38 6 = cnt → gi GM 81 66 = cnt → gi GM 81 0 = now → (∀ k, gi GM 127 k = gi GC 43 k) → (∀ k, gi GM 128 k = gi GC 44 k) → (∀ k : Nat, (k : Int) < cnt → gi GC 43 k = -1 ∨ (0 ≤ gi GC 43 k ∧ gi GC 43 k < k)) → (∀ k : Nat, i ≤ k → (k : Int) < cnt → gi GC 44 k = -1 → gi GC 43 k ≠ -1 → if gi GC 43 k < i then (gi GC 44 (gi GC 43 k).toNat ≠ -1 ↔ gi GM 129 (gi GC 43 k).toNat ≠ 0) else gi GC 44 (gi GC 43 k).toNat = -1) → (∀ k : Nat, (k : Int) < i → (k : Int) < cnt → gi GC 44 k = -1 → gi GC 43 k = -1 ∨ gi GC 44 (gi GC 43 k).toNat = -1) → (∀ k : Nat, (k : Int) < cnt → gi GC 44 k = -1 ∨ (0 ≤ gi GC 44 k ∧ gi GC 44 k ≤ now)) →
    ∃ (y : Int) (GC' GM' : GS), f_Seizings_undo_L14 n GC now x i = some (y, GC') ∧ f_Model_traverse_L97 n GM x i = some (y, GM') ∧ (∀ c k, c ≠ 44 → gi GC' c k = gi GC c k) ∧ (∀ c k, gp GC' c k = gp GC c k) ∧ (∀ c k, c ≠ 128 → c ≠ 129 → gi GM' c k = gi GM c k) ∧ (∀ c k, gp GM' c k = gp GM c k) ∧ (∀ k, gi GM' 128 k = gi GC' 44 k) ∧ (∀ k : Nat, (k : Int) < cnt → gi GC' 44 k = -1 → gi GC' 43 k = -1 ∨ gi GC' 44 (gi GC' 43 k).toNat = -1) ∧ (∀ k : Nat, (k : Int) < cnt → gi GC' 44 k = -1 ∨ (0 ≤ gi GC' 44 k ∧ gi GC' 44 k ≤ now)) := by
  intro n
  induction n with
  | zero => intro GC GM x i q1 q1' q2; omega
  | succ n ih =>
    intro GC GM x i q1 q1' q2 x0 x1 e6 e66 e0 e127 e128 hh inv1 inv2 rng
    by_cases hi : cnt ≤ i
    · refine ⟨x, GC, GM, by simp only [f_Seizings_undo_L14, e6, if_pos hi], by simp only [f_Model_traverse_L97, e66, if_pos hi], fun _ _ _ => rfl, fun _ _ => rfl, fun _ _ _ _ => rfl, fun _ _ => rfl, e128, fun k hk => inv2 k (by omega) hk, rng⟩
    · obtain ⟨k, rfl⟩ : ∃ k : Nat, i = k := ⟨i.toNat, by omega⟩
      have hw : wr ((k : Int) + 1) = (k : Int) + 1 := wr_of (by omega) (by omega)
      have hwx : wr (x + 1) = x + 1 := wr_of (by omega) (by omega)
      have hg : 0 ≤ (k : Int) ∧ (k : Int) < 100 := by omega
      have hk := hh k (by omega)
      have hin := inv1 k (by omega) (by omega)
      -- the reference's mark
      have hM : ∃ (b : Int) (GM1 : GS), (b = 0 ∨ b = 1) ∧ (b ≠ 0 ↔ gi GC 43 k ≠ -1 ∧ gi GM 129 (gi GC 43 k).toNat ≠ 0) ∧ GM1 = si GM 129 k b ∧ f_Model_traverse_L97 (n + 1) GM x k = if b = 0 then f_Model_traverse_L97 n GM1 x (k + 1) else if gi GM1 128 k = -1 then f_Model_traverse_L97 n (si GM1 128 k now) (x + 1) (k + 1) else f_Model_traverse_L97 n GM1 x (k + 1) := by
        have key : ∀ b : Int, (b = 0 ∨ b = 1) → f_Model_traverse_L139 (f_Model_traverse_L97 n) GM x k b k = if b = 0 then f_Model_traverse_L97 n (si GM 129 k b) x (k + 1) else if gi (si GM 129 k b) 128 k = -1 then f_Model_traverse_L97 n (si (si GM 129 k b) 128 k now) (x + 1) (k + 1) else f_Model_traverse_L97 n (si GM 129 k b) x (k + 1) := by
          intro b hb
          have v1 : gi (si GM 129 k b) 129 k = b := by
            rw [gi_si, if_pos ⟨rfl, rfl⟩]; exact wr_of (by omega) (by omega)
          have v2 : gi (si GM 129 k b) 81 0 = now := by rw [gi_ne (by decide)]; exact e0
          simp only [f_Model_traverse_L139, f_Model_traverse_L175, wG, gd, if_pos hg, if_pos hb, Int.toNat_natCast, v1, v2, hw, hwx]
        by_cases c1 : gi GC 43 k = -1
        · refine ⟨0, _, Or.inl rfl, by simp [c1], rfl, ?_⟩
          rw [← key 0 (Or.inl rfl)]
          simp only [f_Model_traverse_L97, e66, if_neg hi, gd, if_pos hg, Int.toNat_natCast, e127, c1, if_true, f_Model_traverse_L138]
        · have hg2 : 0 ≤ gi GC 43 k ∧ gi GC 43 k < 100 := by omega
          by_cases c2 : gi GM 129 (gi GC 43 k).toNat = 0
          · refine ⟨0, _, Or.inl rfl, by simp [c2], rfl, ?_⟩
            rw [← key 0 (Or.inl rfl)]
            simp only [f_Model_traverse_L97, e66, if_neg hi, gd, if_pos hg, if_pos hg2, Int.toNat_natCast, e127, if_neg c1, if_pos c2, f_Model_traverse_L138]
          · refine ⟨1, _, Or.inr rfl, by simp [c1, c2], rfl, ?_⟩
            rw [← key 1 (Or.inr rfl)]
            simp only [f_Model_traverse_L97, e66, if_neg hi, gd, if_pos hg, if_pos hg2, Int.toNat_natCast, e127, if_neg c1, if_neg c2]
      obtain ⟨b, GM1, hb, hbi, hGM1, hMr⟩ := hM
      have hb2 : wr b = b := wr_of (by omega) (by omega)
      have m1 : ∀ c j, ¬ (c = 129 ∧ j = k) → gi GM1 c j = gi GM c j := fun c j q => by rw [hGM1, gi_si, if_neg q]
      have m2 : gi GM1 129 k = b := by rw [hGM1, gi_si, if_pos ⟨rfl, rfl⟩]; exact hb2
      have m3 : ∀ c j, gp GM1 c j = gp GM c j := fun c j => by rw [hGM1]; rfl
      clear hGM1
      have m4 : ∀ c j, c ≠ 129 → gi GM1 c j = gi GM c j := fun c j q => m1 c j (by omega)
      have e128k : gi GM1 128 k = gi GC 44 k := by rw [m4 128 k (by decide)]; exact e128 k
      have hnow : wr now = now := wr_of (by omega) (by omega)
      -- both go on without a change
      have stay : ¬ (gi GC 44 k = -1 ∧ gi GC 43 k ≠ -1 ∧ gi GC 44 (gi GC 43 k).toNat ≠ -1) → f_Model_traverse_L97 (n + 1) GM x k = f_Model_traverse_L97 n GM1 x (k + 1) → _ := fun hno hMs => ih GC GM1 x (k + 1) (by omega) (by omega) (by omega) x0 (by omega) e6 (by rw [m4 81 66 (by decide)]; exact e66) (by rw [m4 81 0 (by decide)]; exact e0) (fun j => by rw [m4 127 j (by decide)]; exact e127 j) (fun j => by rw [m4 128 j (by decide)]; exact e128 j) hh (fun j hj1 hj2 hj3 hj4 => by
          have h1 := inv1 j (by omega) hj2 hj3 hj4
          have h2 := hh j hj2
          by_cases z : gi GC 43 j < (k : Int)
          · rw [if_pos z] at h1
            rw [if_pos (by omega), m1 129 _ (by omega)]
            exact h1
          · rw [if_neg z] at h1
            by_cases z2 : gi GC 43 j = (k : Int)
            · rw [if_pos (by omega), z2, Int.toNat_natCast, m2]
              rw [z2, Int.toNat_natCast] at h1
              constructor
              · intro w; exact absurd h1 w
              · intro w
                exfalso
                have h3 := hbi.mp w
                have h4 := hin h1 h3.1
                rw [if_pos (by omega)] at h4
                exact hno ⟨h1, h3.1, h4.mpr h3.2⟩
            · rw [if_neg (by omega)]; exact h1) (fun j hj1 hj2 hj3 => by
          by_cases z : (j : Int) < k
          · exact inv2 j z hj2 hj3
          · have hjk : j = k := by omega
            subst hjk
            by_cases z1 : gi GC 43 j = -1
            · exact Or.inl z1
            · by_cases z2 : gi GC 44 (gi GC 43 j).toNat = -1
              · exact Or.inr z2
              · exact absurd ⟨hj3, z1, z2⟩ hno) rng
      have hmf : ∀ (GM' : GS), (∀ c j, c ≠ 128 → c ≠ 129 → gi GM' c j = gi GM1 c j) → ∀ c j, c ≠ 128 → c ≠ 129 → gi GM' c j = gi GM c j := fun GM' h c j q1 q2 => by rw [h c j q1 q2]; exact m4 c j q2
      by_cases d1 : gi GC 44 k = -1
      · by_cases d2 : gi GC 43 k = -1
        · have hb0 : b = 0 := by
            rcases hb with h | h
            · exact h
            · exact absurd d2 (hbi.mp (by omega)).1
          have hMs : f_Model_traverse_L97 (n + 1) GM x k = f_Model_traverse_L97 n GM1 x (k + 1) := by rw [hMr, if_pos hb0]
          obtain ⟨y, GC', GM', r1, r2, r3, r4, r5, r6, r7⟩ := stay (by simp [d2]) hMs
          refine ⟨y, GC', GM', ?_, hMs.trans r2, r3, r4, hmf GM' r5, fun c j => (r6 c j).trans (m3 c j), r7⟩
          rw [← r1]
          simp only [f_Seizings_undo_L14, e6, if_neg hi, gd, if_pos hg, Int.toNat_natCast, d1, d2, if_true, f_Seizings_undo_L71, hw]
        · have hg2 : 0 ≤ gi GC 43 k ∧ gi GC 43 k < 100 := by omega
          have h4 := hin d1 d2
          rw [if_pos (by omega)] at h4
          by_cases d3 : gi GC 44 (gi GC 43 k).toNat = -1
          · have hb0 : b = 0 := by
              rcases hb with h | h
              · exact h
              · exact absurd d3 (h4.mpr (hbi.mp (by omega)).2)
            have hMs : f_Model_traverse_L97 (n + 1) GM x k = f_Model_traverse_L97 n GM1 x (k + 1) := by rw [hMr, if_pos hb0]
            obtain ⟨y, GC', GM', r1, r2, r3, r4, r5, r6, r7⟩ := stay (by simp [d3]) hMs
            refine ⟨y, GC', GM', ?_, hMs.trans r2, r3, r4, hmf GM' r5, fun c j => (r6 c j).trans (m3 c j), r7⟩
            rw [← r1]
            simp only [f_Seizings_undo_L14, e6, if_neg hi, gd, if_pos hg, if_pos hg2, Int.toNat_natCast, d1, if_neg d2, if_pos d3, if_true, f_Seizings_undo_L71, hw]
          · -- it falls
            have hb0 : ¬ b = 0 := hbi.mpr ⟨d2, h4.mp d3⟩
            have hCr : f_Seizings_undo_L14 (n + 1) GC now x k = f_Seizings_undo_L14 n (si GC 44 k now) now (x + 1) (k + 1) := by
              simp only [f_Seizings_undo_L14, e6, if_neg hi, gd, if_pos hg, if_pos hg2, Int.toNat_natCast, d1, if_neg d2, if_neg d3, if_true, f_Seizings_undo_L71, hw, wG, hwx]
            have hMs : f_Model_traverse_L97 (n + 1) GM x k = f_Model_traverse_L97 n (si GM1 128 k now) (x + 1) (k + 1) := by rw [hMr, if_neg hb0, e128k, if_pos d1]
            have c1 : ∀ c j, ¬ (c = 44 ∧ j = k) → gi (si GC 44 k now) c j = gi GC c j := fun c j q => by rw [gi_si, if_neg q]
            have c2 : gi (si GC 44 k now) 44 k = now := by rw [gi_si, if_pos ⟨rfl, rfl⟩]; exact hnow
            have c3 : ∀ c j, gp (si GC 44 k now) c j = gp GC c j := fun _ _ => rfl
            have p1 : ∀ c j, ¬ (c = 128 ∧ j = k) → gi (si GM1 128 k now) c j = gi GM1 c j := fun c j q => by rw [gi_si, if_neg q]
            have p2 : gi (si GM1 128 k now) 128 k = now := by rw [gi_si, if_pos ⟨rfl, rfl⟩]; exact hnow
            have p3 : ∀ c j, gp (si GM1 128 k now) c j = gp GM1 c j := fun _ _ => rfl
            generalize si GC 44 k now = GC1 at *
            generalize si GM1 128 k now = GM2 at *
            have c4 : ∀ c j, c ≠ 44 → gi GC1 c j = gi GC c j := fun c j q => c1 c j (by omega)
            have p4 : ∀ c j, c ≠ 128 → gi GM2 c j = gi GM1 c j := fun c j q => p1 c j (by omega)
            have e2 : ∀ j, gi GM2 128 j = gi GC1 44 j := fun j => by
              by_cases z : j = k
              · rw [z, p2, c2]
              · rw [p1 128 j (by omega), c1 44 j (by omega), m4 128 j (by decide)]; exact e128 j
            obtain ⟨y, GC', GM', r1, r2, r3, r4, r5, r6, r7⟩ := ih GC1 GM2 (x + 1) (k + 1) (by omega) (by omega) (by omega) (by omega) (by omega) (by rw [c4 38 6 (by decide)]; exact e6) (by rw [p4 81 66 (by decide), m4 81 66 (by decide)]; exact e66) (by rw [p4 81 0 (by decide), m4 81 0 (by decide)]; exact e0) (fun j => by rw [p4 127 j (by decide), m4 127 j (by decide), c4 43 j (by decide)]; exact e127 j) e2 (fun j hj => by rw [c4 43 j (by decide)]; exact hh j hj) (fun j hj1 hj2 hj3 hj4 => by
                rw [c4 43 j (by decide)] at hj4 ⊢
                rw [c1 44 j (by omega)] at hj3
                have h1 := inv1 j (by omega) hj2 hj3 hj4
                have h2 := hh j hj2
                by_cases z : gi GC 43 j < (k : Int)
                · rw [if_pos z] at h1
                  rw [if_pos (by omega), p4 129 _ (by decide), m1 129 _ (by omega), c1 44 _ (by omega)]
                  exact h1
                · rw [if_neg z] at h1
                  by_cases z2 : gi GC 43 j = (k : Int)
                  · rw [if_pos (by omega), z2, Int.toNat_natCast, p4 129 _ (by decide), m2, c2]
                    constructor
                    · intro _; exact hb0
                    · intro _; omega
                  · rw [if_neg (by omega), c1 44 _ (by omega)]; exact h1) (fun j hj1 hj2 hj3 => by
                have h2 := hh j hj2
                rw [c4 43 j (by decide)]
                by_cases z : j = k
                · subst z; rw [c2] at hj3; omega
                · rw [c1 44 j (by omega)] at hj3
                  rcases inv2 j (by omega) hj2 hj3 with h | h
                  · exact Or.inl h
                  · by_cases z1 : gi GC 43 j = -1
                    · exact Or.inl z1
                    · right; rw [c1 44 _ (by omega)]; exact h) (fun j hj => by
                by_cases z : j = k
                · subst z; rw [c2]; omega
                · rw [c1 44 j (by omega)]; exact rng j hj)
            refine ⟨y, GC', GM', hCr.trans r1, hMs.trans r2, fun c j q => (r3 c j q).trans (c4 c j q), fun c j => (r4 c j).trans (c3 c j), fun c j q1 q2 => by rw [r5 c j q1 q2, p4 c j q1]; exact m4 c j q2, fun c j => (r6 c j).trans ((p3 c j).trans (m3 c j)), r7⟩
      · have hMs : f_Model_traverse_L97 (n + 1) GM x k = f_Model_traverse_L97 n GM1 x (k + 1) := by
          rw [hMr, e128k, if_neg d1]
          split <;> rfl
        obtain ⟨y, GC', GM', r1, r2, r3, r4, r5, r6, r7⟩ := stay (by simp [d1]) hMs
        refine ⟨y, GC', GM', ?_, hMs.trans r2, r3, r4, hmf GM' r5, fun c j => (r6 c j).trans (m3 c j), r7⟩
        rw [← r1]
        simp only [f_Seizings_undo_L14, e6, if_neg hi, gd, if_pos hg, Int.toNat_natCast, if_neg d1, f_Seizings_undo_L71, hw]
def mkM (G : GS) (e : Nat) : GS := (fun c k => if c = 128 then G.1 44 k else if c = 129 then (if k = e then 1 else 0) else G.1 c k, G.2.1, G.2.2)
theorem mkM_128 (G : GS) (e k : Nat) : gi (mkM G e) 128 k = gi G 44 k := rfl
theorem mkM_129 (G : GS) (e k : Nat) : gi (mkM G e) 129 k = if k = e then 1 else 0 := by
  show wr (if k = e then 1 else 0) = _
  split
  · exact wr_of (by decide) (by decide)
  · exact wr_of (by decide) (by decide)
theorem mkM_ne (G : GS) (e : Nat) {c k : Nat} (h : c ≠ 128) (h2 : c ≠ 129) : gi (mkM G e) c k = gi G c k := by
  unfold gi mkM
  simp only [if_neg h, if_neg h2]
theorem falls0 {cnt : Int} {e : Nat} (hc : cnt ≤ 100) (he : (e : Int) < cnt) : ∀ (n : Nat) (G : GS) (x : Int) (k : Nat), (k : Int) ≤ cnt → cnt - k < n → gi G 81 66 = cnt → (∀ j : Nat, j < k → gi G 129 j = if j = e then 1 else 0) → ∃ G1, f_Model_traverse_L63 n G e x k = f_Model_traverse_L97 FU G1 x (e + 1) ∧ (∀ c j, c ≠ 129 → gi G1 c j = gi G c j) ∧ (∀ c j, gp G1 c j = gp G c j) ∧ ∀ j : Nat, (j : Int) < cnt → gi G1 129 j = if j = e then 1 else 0 := by
  intro n
  induction n with
  | zero => intro G x k q1 q2; omega
  | succ n ih =>
    intro G x k q1 q2 q3 q4
    have hw : wr ((k : Int) + 1) = ((k + 1 : Nat) : Int) := by rw [wr_of (by omega) (by omega)]; omega
    have hwe : wr ((e : Int) + 1) = (e : Int) + 1 := wr_of (by omega) (by omega)
    by_cases hi : cnt ≤ k
    · exact ⟨G, by simp only [f_Model_traverse_L63, q3, if_pos hi, hwe], fun _ _ _ => rfl, fun _ _ => rfl, fun j hj => q4 j (by omega)⟩
    · have hg : 0 ≤ (k : Int) ∧ (k : Int) < 100 := by omega
      have key : ∀ b : Int, (b = 0 ∨ b = 1) → (b = if k = e then 1 else 0) → ∃ G1, f_Model_traverse_L86 (f_Model_traverse_L63 n) G e x k b k = f_Model_traverse_L97 FU G1 x (e + 1) ∧ (∀ c j, c ≠ 129 → gi G1 c j = gi G c j) ∧ (∀ c j, gp G1 c j = gp G c j) ∧ ∀ j : Nat, (j : Int) < cnt → gi G1 129 j = if j = e then 1 else 0 := by
        intro b hb hbe
        have v1 : gi (si G 129 k b) 129 k = b := by
          rw [gi_si, if_pos ⟨rfl, rfl⟩]; exact wr_of (by omega) (by omega)
        have v2 : ∀ c j, ¬ (c = 129 ∧ j = k) → gi (si G 129 k b) c j = gi G c j := fun c j q => by rw [gi_si, if_neg q]
        have v3 : ∀ c j, gp (si G 129 k b) c j = gp G c j := fun _ _ => rfl
        simp only [f_Model_traverse_L86, gd, if_pos hg, if_pos hb, wG, Int.toNat_natCast, hw]
        generalize si G 129 k b = G1 at *
        obtain ⟨G2, r1, r2, r3, r4⟩ := ih G1 x (k + 1) (by omega) (by omega) (by rw [v2 81 66 (by omega)]; exact q3) (fun j hj => by
          by_cases z : j = k
          · rw [z, v1, hbe]
          · rw [v2 129 j (by omega)]; exact q4 j (by omega))
        exact ⟨G2, r1, fun c j q => by rw [r2 c j q]; exact v2 c j (by omega), fun c j => (r3 c j).trans (v3 c j), r4⟩
      by_cases z : k = e
      · simp only [f_Model_traverse_L63, q3, if_neg hi, if_pos (show (k : Int) = (e : Int) by omega)]
        exact key 1 (Or.inr rfl) (by rw [if_pos z])
      · simp only [f_Model_traverse_L63, q3, if_neg hi, if_neg (show ¬ (k : Int) = (e : Int) by omega)]
        exact key 0 (Or.inl rfl) (by rw [if_neg z])
/-- seizings fall, all else stays -/
theorem Inv_fall {G G' : GS} (hi : ∀ c k, ¬ (scr c k ∨ c = 44 ∨ c = 128) → gi G' c k = gi G c k) (hp : ∀ c k, gp G' c k = gp G c k) (e1 : ∀ k, gi G' 128 k = gi G' 44 k) (e2 : ∀ k : Nat, (k : Int) < gi G 38 6 → gi G' 44 k = -1 → gi G 43 k = -1 ∨ gi G' 44 (gi G 43 k).toNat = -1) (e3 : ∀ k : Nat, (k : Int) < gi G 38 6 → gi G' 44 k = -1 ∨ (0 ≤ gi G' 44 k ∧ gi G' 44 k ≤ gi G 0 14)) (h : Inv G) : Inv G' := by
  obtain ⟨hE, hP, hL, hR, hS, hT, hM, hJ, hK⟩ := h
  have h14 := hi 0 14 (by unfold scr; omega)
  have h17 := hi 1 7 (by unfold scr; omega)
  have h95 := hi 9 5 (by unfold scr; omega)
  have h38 := hi 38 6 (by unfold scr; omega)
  have n1 := hP.2.1
  refine ⟨InvE_fr (fun q hq k => ?_) (fun q hq => ?_) hE, InvP_fr (by omega) (by omega) h17 (fun c k q => hi _ _ (by unfold scr; omega)) hP, InvL_fr (by omega) h95 (fun c k q => hi _ _ (by unfold scr; omega)) hL, InvR_fr (hi _ _ (by unfold scr; omega)) (fun k => hi _ _ (by unfold scr; omega)) hR, ⟨by rw [h38]; exact hS.1, by rw [h38]; exact hS.2.1, fun k hk => ?_⟩, InvT_fr (hi _ _ (by unfold scr; omega)) (fun c k q => hi _ _ (by unfold scr; omega)) hT, InvM_fr h17 (fun k => hi _ _ (by unfold scr; omega)) (fun c k q => hi _ _ (by unfold scr; omega)) hM, InvJ_fr (by omega) (fun k => hi _ _ (by unfold scr; omega)) (hi _ _ (by unfold scr; omega)) (hi _ _ (by unfold scr; omega)) (fun k => hi _ _ (by unfold scr; omega)) (Or.inl (hi _ _ (by unfold scr; omega))) (hi _ _ (by unfold scr; omega)) hJ, InvK_fr hp (fun c k q => hi _ _ (by unfold scr; omega)) hK⟩
  · have := eqC_rng q hq
    by_cases z : q.2 = 44
    · right
      rw [z, show q.1 = 128 by omega]; exact e1 k
    · left
      exact ⟨hi _ _ (by unfold scr; omega), hi _ _ (by unfold scr; omega)⟩
  · simp only [eqS, List.mem_cons, List.not_mem_nil, or_false] at hq
    rcases hq with rfl | rfl | rfl | rfl | rfl | rfl | rfl | rfl <;> exact Or.inl ⟨hi _ _ (by unfold scr; dsimp only; omega), hi _ _ (by unfold scr; dsimp only; omega)⟩
  · rw [h38] at hk
    have := hS.2.2 k hk
    unfold SOKe at this ⊢
    rw [h14, h17, h95, hi 39 _ (by unfold scr; omega), hi 40 _ (by unfold scr; omega), hi 41 _ (by unfold scr; omega), hi 42 _ (by unfold scr; omega), hi 43 _ (by unfold scr; omega)]
    exact ⟨this.1, this.2.1, this.2.2.1, this.2.2.2.1, this.2.2.2.2.1, e3 k hk, e2 k hk⟩
theorem step_traverse : Step_traverse Inv := by
  intro G e he hI
  have hI' := hI
  obtain ⟨hE, hP, hL, hR, hS, hT, hM, hJ, hK⟩ := hI
  obtain ⟨e0, e1, e10, e16, e43, e50, e52, e66⟩ := eqS_in hE
  have n0 := hP.1
  have n1 := hP.2.1
  have s0 := hS.1
  have s1 := hS.2.1
  have e128 := hE.1 (128, 44) (by decide)
  have e127 := hE.1 (127, 43) (by decide)
  have e126 := hE.1 (126, 42) (by decide)
  have e95 := hE.1 (95, 74) (by decide)
  simp only at e128 e127 e126 e95
  by_cases c : 0 ≤ e ∧ e < gi G 38 6 ∧ gi G 44 e.toNat = -1
  · obtain ⟨k, rfl⟩ : ∃ k : Nat, e = k := ⟨e.toNat, by omega⟩
    simp only [Int.toNat_natCast] at c
    have sk := hS.2.2 k c.2.1
    unfold SOKe at sk
    have hg : 0 ≤ (k : Int) ∧ (k : Int) < 100 := by omega
    have ht := sk.2.2.2.1
    obtain ⟨r, r4, a1, a2⟩ := on_h (d := gi G 42 k) hR ht.1
    have lr := hK.2.2.2.2 r r4
    have lc := hK.1 r r4
    have r4' : (r : Int) < 4 := by omega
    have hz : f_Hall_lawAt G (gi G 42 k) = some (gp G 49 r) := by
      unfold f_Hall_lawAt
      rw [a2]
      simp [gd, lc, r4']
    have e99 : gi G 99 r = gi G (gp G 49 r) 7 := lr.1.2.2.2
    have hwr : wr (gi G 42 k + gi G (gp G 49 r) 7) = gi G 42 k + gi G (gp G 49 r) 7 := wr_of (by have := lr.2.1; omega) (by have := lr.2.1; omega)
    have hst := stands_eq (G := G) (k : Int) s1
    rw [Int.toNat_natCast, if_pos c] at hst
    have hwd : wr (gi G 0 14 - gi G 42 k) = gi G 0 14 - gi G 42 k := wr_of (by omega) (by omega)
    have hwk : wr ((k : Int) + 1) = (k : Int) + 1 := wr_of (by omega) (by omega)
    by_cases cw : gi G 0 14 ≤ gi G 42 k + gi G (gp G 49 r) 7
    · obtain ⟨now, hnow⟩ : ∃ now, now = gi G 0 14 := ⟨_, rfl⟩
      have hwn : wr now = now := by rw [hnow]; exact wr_gi _ _ _
      have c1 : ∀ c j, ¬ (c = 44 ∧ j = k) → gi (si G 44 k now) c j = gi G c j := fun c j q => by rw [gi_si, if_neg q]
      have c2 : gi (si G 44 k now) 44 k = now := by rw [gi_si, if_pos ⟨rfl, rfl⟩]; exact hwn
      have c3 : ∀ c j, gp (si G 44 k now) c j = gp G c j := fun _ _ => rfl
      have hH : f_Hall_traverse G k = (f_Seizings_undo_L14 FU (si G 44 k now) now 1 (k + 1)).bind fun q3 => some (q3.1, q3.2) := by
        unfold f_Hall_traverse f_Seizings_undo
        simp only [hst, Option.bind_some, if_neg (show ¬ (1 : Int) = 0 by decide), gd, if_pos hg, Int.toNat_natCast, hz, hwr, if_pos cw, wG, hwk, hnow]
      generalize si G 44 k now = GC at *
      have c4 : ∀ c j, c ≠ 44 → gi GC c j = gi G c j := fun c j q => c1 c j (by omega)
      have lock : ∀ GM : GS, (∀ c j, c ≠ 128 → c ≠ 129 → c ≠ 44 → gi GM c j = gi G c j) → (∀ j, gi GM 128 j = gi GC 44 j) → (∀ j : Nat, (j : Int) < gi G 38 6 → gi GM 129 j = if j = k then 1 else 0) → _ := fun GM g1 g2 g3 => trav_lock (now := now) (cnt := gi G 38 6) (by omega) ⟨s0, s1⟩ FU GC GM 1 (k + 1) (by omega) (by omega) (by unfold FU; omega) (by decide) (by omega) (c4 38 6 (by decide)) (by rw [g1 81 66 (by decide) (by decide) (by decide)]; exact e66) (by rw [g1 81 0 (by decide) (by decide) (by decide), hnow]; exact e0) (fun j => by rw [g1 127 j (by decide) (by decide) (by decide), c4 43 j (by decide)]; exact e127 j) g2 (fun j hj => by
          rw [c4 43 j (by decide)]
          have := hS.2.2 j hj
          unfold SOKe at this
          exact this.2.2.2.2.1) (fun j hj1 hj2 hj3 hj4 => by
          rw [c1 44 j (by omega)] at hj3
          rw [c4 43 j (by decide)] at hj4 ⊢
          have := hS.2.2 j hj2
          unfold SOKe at this
          have t1 := this.2.2.2.2.1
          have t2 : gi G 44 (gi G 43 j).toNat = -1 := by
            rcases this.2.2.2.2.2.2 hj3 with h | h
            · exact absurd h hj4
            · exact h
          by_cases z : (gi G 43 j).toNat = k
          · rw [if_pos (by omega), z, c2, g3 k (by omega), if_pos rfl]
            constructor
            · intro _; decide
            · intro _; omega
          · rw [g3 _ (by omega), if_neg z, c1 44 _ (by omega), t2]
            by_cases y : gi G 43 j < (k : Int) + 1
            · rw [if_pos y]; simp
            · rw [if_neg y]) (fun j hj1 hj2 hj3 => by
          have := hS.2.2 j hj2
          unfold SOKe at this
          by_cases z : j = k
          · subst z; rw [c2] at hj3; omega
          · rw [c1 44 j (by omega)] at hj3
            rw [c4 43 j (by decide)]
            rcases this.2.2.2.2.2.2 hj3 with h | h
            · exact Or.inl h
            · by_cases y : gi G 43 j = -1
              · exact Or.inl y
              · right; rw [c1 44 _ (by omega)]; exact h) (fun j hj => by
          by_cases z : j = k
          · subst z; rw [c2]; omega
          · have := hS.2.2 j hj
            unfold SOKe at this
            rw [c1 44 j (by omega), hnow]; exact this.2.2.2.2.2.1)
      obtain ⟨y, GC', GMx, r1, -, r3, r4, -, -, -, r8, r9⟩ := lock (mkM GC k) (fun c j q1 q2 q3 => (mkM_ne GC k q1 q2).trans (c4 c j q3)) (fun j => mkM_128 GC k j) (fun j _ => mkM_129 GC k j)
      have hH2 : f_Hall_traverse G k = some (y, GC') := by rw [hH, r1]; rfl
      have d1 : ∀ c j, c ≠ 44 → gi GC' c j = gi G c j := fun c j q => (r3 c j q).trans (c4 c j q)
      -- the reference, from there
      have m1 : ∀ c j, ¬ (c = 128 ∧ j = k) → gi (si GC' 128 k now) c j = gi GC' c j := fun c j q => by rw [gi_si, if_neg q]
      have m2 : gi (si GC' 128 k now) 128 k = now := by rw [gi_si, if_pos ⟨rfl, rfl⟩]; exact hwn
      have m3 : ∀ c j, gp (si GC' 128 k now) c j = gp GC' c j := fun _ _ => rfl
      have hMo : f_Model_traverse GC' k = f_Model_traverse_L63 FU (si GC' 128 k now) k 1 0 := by
        obtain ⟨s, s4, b1, b2⟩ := on_m (G := GC') (d := gi G 42 k) (InvR_fr (d1 _ _ (by decide)) (fun _ => d1 _ _ (by decide)) hR) ht.1 (by rw [d1 81 16 (by decide), d1 0 12 (by decide)]; exact e16) (fun j => by rw [d1 95 j (by decide), d1 74 j (by decide)]; exact e95 j)
        have b3 := on_one (onV_fr (d1 _ _ (by decide)) (fun _ => d1 _ _ (by decide)) b1) a1
        rw [b3] at b2
        have hsz := mSeiz_eq (G := GC') (k : Int) (by rw [d1 81 66 (by decide)]; omega) (by rw [d1 81 66 (by decide)]; omega)
        rw [d1 81 66 (by decide), e66, if_pos ⟨c.1, c.2.1⟩] at hsz
        have v128 : gi GC' 128 k = -1 := by rw [d1 128 k (by decide), e128]; exact c.2.2
        have v126 : gi GC' 126 k = gi G 42 k := by rw [d1 126 k (by decide), e126]
        have v0 : gi GC' 81 0 = now := by rw [d1 81 0 (by decide), e0, hnow]
        have v99 : gi GC' 99 r = gi G (gp G 49 r) 7 := by rw [d1 99 r (by decide), e99]
        unfold f_Model_traverse
        simp only [hsz, Option.bind_some, if_neg (show ¬ (1 : Int) = 0 by decide), gd, if_pos hg, Int.toNat_natCast, v128, if_true, v126, b2, if_pos (show 0 ≤ (r : Int) ∧ (r : Int) < 4 by omega), v0, v99, wG]
        rw [hnow, hwd, if_pos (by omega)]
      generalize si GC' 128 k now = GM0 at *
      obtain ⟨GM1, f1, f2, f3, f4⟩ := falls0 (cnt := gi G 38 6) (e := k) s1 c.2.1 FU GM0 1 0 (by omega) (by unfold FU; omega) (by rw [m1 81 66 (by omega), d1 81 66 (by decide)]; exact e66) (fun j hj => by omega)
      have fx : ∀ c j, c ≠ 128 → c ≠ 129 → c ≠ 44 → gi GM1 c j = gi G c j := fun c j q1 q2 q3 => by rw [f2 c j q2, m1 c j (by omega), d1 c j q3]
      obtain ⟨y2, GC2, GM', u1, u2, -, -, u5, u6, u7, -, -⟩ := lock GM1 fx (fun j => by
        rw [f2 128 j (by decide)]
        by_cases z : j = k
        · rw [z, m2, c2]
        · rw [m1 128 j (by omega), d1 128 j (by decide), c1 44 j (by omega)]; exact e128 j) f4
      rw [r1] at u1
      have hy : y2 = y := by cases u1; rfl
      have hGC : GC2 = GC' := by cases u1; rfl
      subst hy hGC
      have hMo2 : f_Model_traverse GC2 k = some (y2, GM') := by
        rw [hMo]
        exact f1.trans u2
      refine ⟨(y2, GC2), (y2, GM'), hH2, hMo2, rfl, ?_⟩
      show Inv GM'
      have w44 : ∀ j, gi GM' 44 j = gi GC2 44 j := fun j => by rw [u5 44 j (by decide) (by decide), f2 44 j (by decide), m1 44 j (by omega)]
      refine Inv_fall (fun c j q => ?_) (fun c j => ?_) (fun j => by rw [w44]; exact u7 j) (fun j hj hj2 => ?_) (fun j hj => ?_) hI'
      · unfold scr at q
        rw [u5 c j (by omega) (by omega)]
        exact fx c j (by omega) (by omega) (by omega)
      · rw [u6, f3, m3, r4, c3]
      · rw [w44] at hj2 ⊢
        have := r8 j hj hj2
        rw [d1 43 j (by decide)] at this
        exact this
      · rw [w44, ← hnow]
        exact r9 j hj
    · refine ⟨(-1, G), (-1, G), ?_, ?_, rfl, hI'⟩
      · unfold f_Hall_traverse
        simp only [hst, Option.bind_some, if_neg (show ¬ (1 : Int) = 0 by decide), gd, if_pos hg, Int.toNat_natCast, hz, hwr, if_neg cw]
      · show f_Model_traverse G k = _
        obtain ⟨s, s4, b1, b2⟩ := on_m (G := G) (d := gi G 42 k) hR ht.1 e16 e95
        have b3 := on_one b1 a1
        rw [b3] at b2
        have hsz := mSeiz_eq (G := G) (k : Int) (by omega) (by omega)
        rw [e66, if_pos ⟨c.1, c.2.1⟩] at hsz
        unfold f_Model_traverse
        simp only [hsz, Option.bind_some, if_neg (show ¬ (1 : Int) = 0 by decide), gd, if_pos hg, Int.toNat_natCast, e128, c.2.2, if_true, e126, b2, if_pos (show 0 ≤ (r : Int) ∧ (r : Int) < 4 by omega), e0, e99, hwd]
        rw [if_neg (by omega)]
  · refine ⟨(-1, G), (-1, G), ?_, ?_, rfl, hI'⟩
    · have hst := stands_eq (G := G) e s1
      rw [if_neg c] at hst
      unfold f_Hall_traverse
      simp only [hst, Option.bind_some, if_true]
    · show f_Model_traverse G e = _
      have hsz := mSeiz_eq (G := G) e (by omega) (by omega)
      rw [e66] at hsz
      unfold f_Model_traverse
      by_cases z : 0 ≤ e ∧ e < gi G 38 6
      · rw [if_pos z] at hsz
        simp only [hsz, Option.bind_some, if_neg (show ¬ (1 : Int) = 0 by decide), gd, if_pos (show 0 ≤ e ∧ e < 100 by omega), e128]
        rw [if_neg (by omega)]
      · rw [if_neg z] at hsz
        simp only [hsz, Option.bind_some, if_true]
