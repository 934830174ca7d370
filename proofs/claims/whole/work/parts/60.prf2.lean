/-! the proof of an age: class and reference -/
theorem last_L {G : GS} {p n : Nat} (h : MD G p n) {M : Int} (hM : gi G 23 7 = M) : ∀ (k m : Nat) (x2 : Int), m ≤ n → n - m < k → (0 ≤ x2 ∧ x2 ≤ 29999) → (cn (loF G p) (hiF G p) x2 n : Int) = M → ∃ l, f_Remembered_lastOf_L26 G k p x2 m = some l ∧ (0 ≤ l ∧ l ≤ 29999) ∧ (cn (loF G p) (hiF G p) l n : Int) = M ∧ x2 ≤ l ∧ ∀ j, m ≤ j → j < n → 0 ≤ hiF G p j → hiF G p j ≤ 29999 → (cn (loF G p) (hiF G p) (hiF G p j) n : Int) = M → hiF G p j ≤ l := by
  intro k
  induction k with
  | zero => intro m x2 q1 q2; omega
  | succ k ih =>
    intro m x2 q1 q2 q3 q4
    obtain ⟨h1, h2, h3, -⟩ := id h
    have g1 : (0 : Int) ≤ (p : Int) ∧ (p : Int) < 32 := by omega
    by_cases c : (n : Int) ≤ m
    · exact ⟨x2, by simp only [f_Remembered_lastOf_L26, gd, if_pos g1, Int.toNat_natCast, h3, if_pos c], q3, q4, by omega, fun j a b => by omega⟩
    · have hw : wr ((m : Int) + 1) = ((m + 1 : Nat) : Int) := by rw [wr_of (by omega) (by omega)]; omega
      have stay : ∀ y, x2 ≤ y → (0 ≤ y ∧ y ≤ 29999) → (cn (loF G p) (hiF G p) y n : Int) = M → (0 ≤ hiF G p m → hiF G p m ≤ 29999 → (cn (loF G p) (hiF G p) (hiF G p m) n : Int) = M → hiF G p m ≤ y) → f_Remembered_lastOf_L26 G (k + 1) p x2 m = f_Remembered_lastOf_L26 G k p y ((m + 1 : Nat) : Int) → ∃ l, f_Remembered_lastOf_L26 G (k + 1) p x2 m = some l ∧ (0 ≤ l ∧ l ≤ 29999) ∧ (cn (loF G p) (hiF G p) l n : Int) = M ∧ x2 ≤ l ∧ ∀ j, m ≤ j → j < n → 0 ≤ hiF G p j → hiF G p j ≤ 29999 → (cn (loF G p) (hiF G p) (hiF G p j) n : Int) = M → hiF G p j ≤ l := fun y y1 y2 y3 y4 e => by
        obtain ⟨l, r1, r2, r3, r4, r5⟩ := ih (m + 1) y (by omega) (by omega) y2 y3
        refine ⟨l, e.trans r1, r2, r3, by omega, fun j a b c1 c2 c3 => ?_⟩
        by_cases z : j = m
        · subst z; have := y4 c1 c2 c3; omega
        · exact r5 j (by omega) b c1 c2 c3
      have hd := hDay_eq G (hiF G p m)
      by_cases c1 : 0 ≤ hiF G p m ∧ hiF G p m ≤ 29999
      · rw [if_pos c1] at hd
        by_cases c2 : hiF G p m ≤ x2
        · refine stay x2 (by omega) q3 q4 (fun _ _ _ => c2) ?_
          simp only [f_Remembered_lastOf_L26, gd, if_pos g1, Int.toNat_natCast, h3, if_neg c, high_eq h (show m < n by omega), Option.bind_some, hd, if_neg (show ¬ (1 : Int) = 0 by decide), if_pos c2, f_Remembered_lastOf_L75, hw]
        · by_cases c3 : (cn (loF G p) (hiF G p) (hiF G p m) n : Int) = M
          · refine stay (hiF G p m) (by omega) c1 c3 (fun _ _ _ => by omega) ?_
            simp only [f_Remembered_lastOf_L26, gd, if_pos g1, Int.toNat_natCast, h3, if_neg c, high_eq h (show m < n by omega), Option.bind_some, hd, if_neg (show ¬ (1 : Int) = 0 by decide), if_neg c2, agrC h, hM, if_pos c3, f_Remembered_lastOf_L75, hw]
          · refine stay x2 (by omega) q3 q4 (fun _ _ z => absurd z c3) ?_
            simp only [f_Remembered_lastOf_L26, gd, if_pos g1, Int.toNat_natCast, h3, if_neg c, high_eq h (show m < n by omega), Option.bind_some, hd, if_neg (show ¬ (1 : Int) = 0 by decide), if_neg c2, agrC h, hM, if_neg c3, f_Remembered_lastOf_L75, hw]
      · rw [if_neg c1] at hd
        refine stay x2 (by omega) q3 q4 (fun a b _ => absurd ⟨a, b⟩ c1) ?_
        simp only [f_Remembered_lastOf_L26, gd, if_pos g1, Int.toNat_natCast, h3, if_neg c, high_eq h (show m < n by omega), Option.bind_some, hd, if_true, f_Remembered_lastOf_L75, hw]
theorem last_eq {G : GS} {p n : Nat} (h : MD G p n) (hM : gi G 23 7 = cn (loF G p) (hiF G p) (gi G 23 5) n) (hF : Fst (loF G p) (hiF G p) n (gi G 23 5)) : ∃ l, f_Remembered_lastOf G p = some l ∧ Lst (loF G p) (hiF G p) n (gi G 23 5) l := by
  have ha := agrC h 29999
  by_cases c : (cn (loF G p) (hiF G p) 29999 n : Int) = gi G 23 7
  · refine ⟨29999, ?_, ⟨by decide, by omega⟩, by omega, fun d a b _ => b⟩
    simp only [f_Remembered_lastOf, ha, Option.bind_some, if_pos c]
  · obtain ⟨l, r1, r2, r3, r4, r5⟩ := last_L h rfl FU 0 (gi G 23 5) (by omega) (by have := h.2.1; unfold FU; omega) hF.1 hM.symm
    refine ⟨l, ?_, Lst_of hF r2 (by omega) (by omega) (fun m a b c d => r5 m (by omega) a b c (by omega))⟩
    simp only [f_Remembered_lastOf, ha, Option.bind_some, if_neg c]
    exact r1
theorem unb_L {G : GS} {p n : Nat} (h : MD G p n) : ∀ (k m : Nat), m ≤ n → n - m < k → ∃ r : Int, f_Remembered_isUnbroken_L2 G k p m = some r ∧ (r = 0 ∨ r = 1) ∧ (r = 1 ↔ ∀ j, m ≤ j → j < n → gi G 23 5 < hiF G p j + 1 → hiF G p j + 1 ≤ gi G 23 6 → (cn (loF G p) (hiF G p) (hiF G p j + 1) n : Int) = gi G 23 7) := by
  intro k
  induction k with
  | zero => intro m q1 q2; omega
  | succ k ih =>
    intro m q1 q2
    obtain ⟨h1, h2, h3, -⟩ := id h
    have g1 : (0 : Int) ≤ (p : Int) ∧ (p : Int) < 32 := by omega
    by_cases c : (n : Int) ≤ m
    · exact ⟨1, by simp only [f_Remembered_isUnbroken_L2, gd, if_pos g1, Int.toNat_natCast, h3, if_pos c], Or.inr rfl, ⟨fun _ j a b => by omega, fun _ => rfl⟩⟩
    · have hw : wr ((m : Int) + 1) = ((m + 1 : Nat) : Int) := by rw [wr_of (by omega) (by omega)]; omega
      have rg := (MD_rng h (show m < n by omega)).2.2
      have hwh : wr (hiF G p m + 1) = hiF G p m + 1 := wr_of (by omega) (by omega)
      obtain ⟨r, r1, r2, r3⟩ := ih (m + 1) (by omega) (by omega)
      have go : (gi G 23 5 < hiF G p m + 1 → hiF G p m + 1 ≤ gi G 23 6 → (cn (loF G p) (hiF G p) (hiF G p m + 1) n : Int) = gi G 23 7) → (r = 1 ↔ ∀ j, m ≤ j → j < n → gi G 23 5 < hiF G p j + 1 → hiF G p j + 1 ≤ gi G 23 6 → (cn (loF G p) (hiF G p) (hiF G p j + 1) n : Int) = gi G 23 7) := fun y => r3.trans ⟨fun a j b1 b2 b3 b4 => by
        by_cases z : j = m
        · subst z; exact y b3 b4
        · exact a j (by omega) b2 b3 b4, fun a j b1 => a j (by omega)⟩
      by_cases c1 : hiF G p m + 1 ≤ gi G 23 5
      · refine ⟨r, ?_, r2, go (fun a => by omega)⟩
        simp only [f_Remembered_isUnbroken_L2, gd, if_pos g1, Int.toNat_natCast, h3, if_neg c, high_eq h (show m < n by omega), Option.bind_some, hwh, if_pos c1, f_Remembered_isUnbroken_L52, hw]
        exact r1
      · by_cases c2 : gi G 23 6 < hiF G p m + 1
        · refine ⟨r, ?_, r2, go (fun a b => by omega)⟩
          simp only [f_Remembered_isUnbroken_L2, gd, if_pos g1, Int.toNat_natCast, h3, if_neg c, high_eq h (show m < n by omega), Option.bind_some, hwh, if_neg c1, if_pos c2, f_Remembered_isUnbroken_L52, hw]
          exact r1
        · by_cases c3 : (cn (loF G p) (hiF G p) (hiF G p m + 1) n : Int) = gi G 23 7
          · refine ⟨r, ?_, r2, go (fun _ _ => c3)⟩
            simp only [f_Remembered_isUnbroken_L2, gd, if_pos g1, Int.toNat_natCast, h3, if_neg c, high_eq h (show m < n by omega), Option.bind_some, hwh, if_neg c1, if_neg c2, agrC h, if_pos c3, f_Remembered_isUnbroken_L52, hw]
            exact r1
          · refine ⟨0, ?_, Or.inl rfl, ⟨fun z => absurd z (by decide), fun a => absurd (a m (by omega) (by omega) (by omega) (by omega)) c3⟩⟩
            simp only [f_Remembered_isUnbroken_L2, gd, if_pos g1, Int.toNat_natCast, h3, if_neg c, high_eq h (show m < n by omega), Option.bind_some, hwh, if_neg c1, if_neg c2, agrC h, if_neg c3]
/-- what stands behind a proof in the class -/
def PrC (G : GS) (lo hi : Nat → Int) (n : Nat) : Prop := Fst lo hi n (gi G 23 5) ∧ Lst lo hi n (gi G 23 5) (gi G 23 6) ∧ gi G 23 7 = cn lo hi (gi G 23 5) n ∧ (gi G 23 8 = 0 ∨ gi G 23 8 = 1) ∧ (gi G 23 8 = 1 ↔ Sur lo hi n (gi G 23 5) (gi G 23 6))
theorem prv_end {G : GS} {p n : Nat} (k : Nat) (h : MD G p n) (hM : gi G 23 7 = cn (loF G p) (hiF G p) (gi G 23 5) n) (hF : Fst (loF G p) (hiF G p) n (gi G 23 5)) : ∃ G1, f_Remembered_prove_L17 (k + 1) G p n = some G1 ∧ (∀ c j, ¬ (c = 23 ∧ 5 ≤ j) → gi G1 c j = gi G c j) ∧ (∀ c j, gp G1 c j = gp G c j) ∧ PrC G1 (loF G p) (hiF G p) n := by
  obtain ⟨l, l1, l2⟩ := last_eq h hM hF
  obtain ⟨h1, h2, h3, -⟩ := id h
  have g1 : (0 : Int) ≤ (p : Int) ∧ (p : Int) < 32 := by omega
  have hwl : wr l = l := wr_of (by have := l2.1; omega) (by have := l2.1; omega)
  have v1 : gi (si G 23 6 l) 23 6 = l := by rw [gi_si, if_pos ⟨rfl, rfl⟩]; exact hwl
  have v2 : ∀ c j, ¬ (c = 23 ∧ j = 6) → gi (si G 23 6 l) c j = gi G c j := fun c j q => by rw [gi_si, if_neg q]
  have v3 : ∀ c j, gp (si G 23 6 l) c j = gp G c j := fun _ _ => rfl
  have e : f_Remembered_prove_L17 (k + 1) G p n = (if gi (si G 23 6 l) 23 7 ≤ 0 then f_Remembered_prove_L125 (si G 23 6 l) else (f_Remembered_isUnbroken (si G 23 6 l) p).bind fun q2 => if q2 = 0 then f_Remembered_prove_L125 (si G 23 6 l) else f_Remembered_prove_L126 (si G 23 6 l) 1) := by
    simp only [f_Remembered_prove_L17, gd, if_pos g1, Int.toNat_natCast, h3, if_pos (Int.le_refl _), l1, Option.bind_some, wG]
  rw [e]
  generalize si G 23 6 l = G' at *
  obtain ⟨hMD, hlo, hhi⟩ := MD_fr (G' := G') (fun c k q => v2 c k (by omega)) h
  have fin : ∀ s : Int, (s = 0 ∨ s = 1) → (s = 1 ↔ Sur (loF G p) (hiF G p) n (gi G 23 5) l) → ∃ G1, f_Remembered_prove_L126 G' s = some G1 ∧ (∀ c j, ¬ (c = 23 ∧ 5 ≤ j) → gi G1 c j = gi G c j) ∧ (∀ c j, gp G1 c j = gp G c j) ∧ PrC G1 (loF G p) (hiF G p) n := fun s hs hs2 => by
    have u1 : gi (si G' 23 8 s) 23 8 = s := by rw [gi_si, if_pos ⟨rfl, rfl⟩]; exact wr_of (by omega) (by omega)
    have u2 : ∀ c j, ¬ (c = 23 ∧ j = 8) → gi (si G' 23 8 s) c j = gi G' c j := fun c j q => by rw [gi_si, if_neg q]
    refine ⟨si G' 23 8 s, by simp only [f_Remembered_prove_L126, gd, if_pos hs, wG], fun c j q => by rw [u2 c j (by omega), v2 c j (by omega)], v3, ?_⟩
    unfold PrC
    rw [u1, u2 23 5 (by omega), u2 23 6 (by omega), u2 23 7 (by omega), v1, v2 23 5 (by omega), v2 23 7 (by omega)]
    exact ⟨hF, l2, hM, hs, hs2⟩
  by_cases c1 : gi G' 23 7 ≤ 0
  · rw [if_pos c1]
    refine fin 0 (Or.inl rfl) ⟨fun z => absurd z (by decide), fun z => ?_⟩
    have := z.1
    rw [v2 23 7 (by omega)] at c1
    omega
  · rw [if_neg c1]
    obtain ⟨r, r1, r2, r3⟩ := unb_L hMD FU 0 (by omega) (by unfold FU; omega)
    have r1' : f_Remembered_isUnbroken G' p = some r := r1
    rw [r1', Option.bind_some]
    rw [hlo, hhi, v1, v2 23 5 (by omega), v2 23 7 (by omega)] at r3
    have hs : r = 1 ↔ Sur (loF G p) (hiF G p) n (gi G 23 5) l := by
      rw [r3]
      constructor
      · intro a
        refine ⟨?_, Sur_of hF l2.1.2 (fun m b1 b2 b3 => ?_)⟩
        · rw [v2 23 7 (by omega)] at c1; omega
        · have := a m (by omega) b1 b2 b3; omega
      · intro a j b1 b2 b3 b4
        have := a.2 (hiF G p j + 1) (by omega) b4
        omega
    rcases r2 with z | z
    · subst z
      rw [if_pos rfl]
      exact fin 0 (Or.inl rfl) hs
    · subst z
      rw [if_neg (by decide)]
      exact fin 1 (Or.inr rfl) hs
theorem prv_L {p n : Nat} {lo hi : Nat → Int} : ∀ (k : Nat) (G : GS) (m : Nat), m ≤ n → n - m < k → MD G p n → loF G p = lo → hiF G p = hi → (0 ≤ gi G 23 5 ∧ gi G 23 5 ≤ 29999) → gi G 23 7 = cn lo hi (gi G 23 5) n → (cn lo hi 0 n ≤ cn lo hi (gi G 23 5) n ∧ (cn lo hi 0 n = cn lo hi (gi G 23 5) n → gi G 23 5 ≤ 0)) → (∀ j, j < m → 0 ≤ lo j → lo j ≤ 29999 → cn lo hi (lo j) n ≤ cn lo hi (gi G 23 5) n ∧ (cn lo hi (lo j) n = cn lo hi (gi G 23 5) n → gi G 23 5 ≤ lo j)) → ∃ G1, f_Remembered_prove_L17 k G p m = some G1 ∧ (∀ c j, ¬ (c = 23 ∧ 5 ≤ j) → gi G1 c j = gi G c j) ∧ (∀ c j, gp G1 c j = gp G c j) ∧ PrC G1 lo hi n := by
  intro k
  induction k with
  | zero => intro G m q1 q2; omega
  | succ k ih =>
    intro G m q1 q2 h hlo hhi hf hM h0 hj
    obtain ⟨h1, h2, h3, -⟩ := id h
    have g1 : (0 : Int) ≤ (p : Int) ∧ (p : Int) < 32 := by omega
    by_cases c : (n : Int) ≤ m
    · have : m = n := by omega
      subst this
      have hF : Fst lo hi m (gi G 23 5) := Fst_of hf h0 hj
      rw [← hlo, ← hhi] at hM hF ⊢
      exact prv_end k h hM hF
    · have hw : wr ((m : Int) + 1) = ((m + 1 : Nat) : Int) := by rw [wr_of (by omega) (by omega)]; omega
      have hl := low_eq h (show m < n by omega)
      rw [hlo] at hl
      have hd := hDay_eq G (lo m)
      have ha := agrC h (lo m)
      rw [hlo, hhi] at ha
      have hcl := cn_le lo hi (lo m) n
      have take : 0 ≤ lo m → lo m ≤ 29999 → (cn lo hi (gi G 23 5) n < cn lo hi (lo m) n ∨ (cn lo hi (lo m) n = cn lo hi (gi G 23 5) n ∧ lo m < gi G 23 5)) → f_Remembered_prove_L17 (k + 1) G p m = f_Remembered_prove_L79 (f_Remembered_prove_L17 k) G p m (lo m) (cn lo hi (lo m) n : Int) → ∃ G1, f_Remembered_prove_L17 (k + 1) G p m = some G1 ∧ (∀ c j, ¬ (c = 23 ∧ 5 ≤ j) → gi G1 c j = gi G c j) ∧ (∀ c j, gp G1 c j = gp G c j) ∧ PrC G1 lo hi n := fun a b d e => by
        have v5 : gi (si (si G 23 7 (cn lo hi (lo m) n : Int)) 23 5 (lo m)) 23 5 = lo m := by rw [gi_si, if_pos ⟨rfl, rfl⟩]; exact wr_of (by omega) (by omega)
        have v7 : gi (si (si G 23 7 (cn lo hi (lo m) n : Int)) 23 5 (lo m)) 23 7 = cn lo hi (lo m) n := by rw [gi_si, if_neg (by omega), gi_si, if_pos ⟨rfl, rfl⟩]; exact wr_of (by omega) (by omega)
        have v2 : ∀ c j, ¬ (c = 23 ∧ 5 ≤ j) → gi (si (si G 23 7 (cn lo hi (lo m) n : Int)) 23 5 (lo m)) c j = gi G c j := fun c j q => by rw [gi_si, if_neg (by omega), gi_si, if_neg (by omega)]
        have v3 : ∀ c j, gp (si (si G 23 7 (cn lo hi (lo m) n : Int)) 23 5 (lo m)) c j = gp G c j := fun _ _ => rfl
        simp only [f_Remembered_prove_L79, wG, f_Remembered_prove_L90, hw] at e
        rw [e]
        generalize si (si G 23 7 (cn lo hi (lo m) n : Int)) 23 5 (lo m) = G' at *
        obtain ⟨hMD, hlo', hhi'⟩ := MD_fr (G' := G') (fun c k q => v2 c k (by omega)) h
        obtain ⟨G1, r1, r2, r3, r4⟩ := ih G' (m + 1) (by omega) (by omega) hMD (hlo'.trans hlo) (hhi'.trans hhi) (by rw [v5]; exact ⟨a, b⟩) (by rw [v7, v5]) (by rw [v5]; omega) (fun j hj1 hj2 hj3 => by
          rw [v5]
          by_cases z : j = m
          · subst z; omega
          · have := hj j (by omega) hj2 hj3; omega)
        exact ⟨G1, r1, fun c j q => (r2 c j q).trans (v2 c j q), fun c j => (r3 c j).trans (v3 c j), r4⟩
      have stay : (0 ≤ lo m → lo m ≤ 29999 → cn lo hi (lo m) n ≤ cn lo hi (gi G 23 5) n ∧ (cn lo hi (lo m) n = cn lo hi (gi G 23 5) n → gi G 23 5 ≤ lo m)) → f_Remembered_prove_L17 (k + 1) G p m = f_Remembered_prove_L90 (f_Remembered_prove_L17 k) G p m → ∃ G1, f_Remembered_prove_L17 (k + 1) G p m = some G1 ∧ (∀ c j, ¬ (c = 23 ∧ 5 ≤ j) → gi G1 c j = gi G c j) ∧ (∀ c j, gp G1 c j = gp G c j) ∧ PrC G1 lo hi n := fun a e => by
        simp only [f_Remembered_prove_L90, hw] at e
        rw [e]
        exact ih G (m + 1) (by omega) (by omega) h hlo hhi hf hM h0 (fun j hj1 hj2 hj3 => by
          by_cases z : j = m
          · subst z; exact a hj2 hj3
          · exact hj j (by omega) hj2 hj3)
      by_cases c1 : 0 ≤ lo m ∧ lo m ≤ 29999
      · rw [if_pos c1] at hd
        by_cases c2 : gi G 23 7 < (cn lo hi (lo m) n : Int)
        · refine take c1.1 c1.2 (by omega) ?_
          simp only [f_Remembered_prove_L17, gd, if_pos g1, Int.toNat_natCast, h3, if_neg c, hl, Option.bind_some, hd, if_neg (show ¬ (1 : Int) = 0 by decide), ha, f_Remembered_prove_L51, if_pos c2]
        · by_cases c3 : (cn lo hi (lo m) n : Int) = gi G 23 7
          · by_cases c4 : gi G 23 5 ≤ lo m
            · refine stay (fun _ _ => ⟨by omega, fun _ => c4⟩) ?_
              simp only [f_Remembered_prove_L17, gd, if_pos g1, Int.toNat_natCast, h3, if_neg c, hl, Option.bind_some, hd, if_neg (show ¬ (1 : Int) = 0 by decide), ha, f_Remembered_prove_L51, if_neg c2, if_pos c3, if_pos c4]
            · refine take c1.1 c1.2 (by omega) ?_
              simp only [f_Remembered_prove_L17, gd, if_pos g1, Int.toNat_natCast, h3, if_neg c, hl, Option.bind_some, hd, if_neg (show ¬ (1 : Int) = 0 by decide), ha, f_Remembered_prove_L51, if_neg c2, if_pos c3, if_neg c4]
          · refine stay (fun _ _ => ⟨by omega, fun z => by omega⟩) ?_
            simp only [f_Remembered_prove_L17, gd, if_pos g1, Int.toNat_natCast, h3, if_neg c, hl, Option.bind_some, hd, if_neg (show ¬ (1 : Int) = 0 by decide), ha, f_Remembered_prove_L51, if_neg c2, if_neg c3]
      · rw [if_neg c1] at hd
        refine stay (fun a b => absurd ⟨a, b⟩ c1) ?_
        simp only [f_Remembered_prove_L17, gd, if_pos g1, Int.toNat_natCast, h3, if_neg c, hl, Option.bind_some, hd, if_true, f_Remembered_prove_L51, if_neg (show ¬ gi G 23 7 < -1 by omega), if_neg (show ¬ (-1 : Int) = gi G 23 7 by omega)]
theorem prove_eq {G : GS} {p n : Nat} (h : MD G p n) : ∃ G1, f_Remembered_prove G p = some G1 ∧ (∀ c j, ¬ (c = 23 ∧ 5 ≤ j) → gi G1 c j = gi G c j) ∧ (∀ c j, gp G1 c j = gp G c j) ∧ PrC G1 (loF G p) (hiF G p) n := by
  have v5 : gi (si G 23 5 0) 23 5 = 0 := by rw [gi_si, if_pos ⟨rfl, rfl⟩]; exact wr_zero
  have v2 : ∀ c j, ¬ (c = 23 ∧ 5 ≤ j) → gi (si G 23 5 0) c j = gi G c j := fun c j q => by rw [gi_si, if_neg (by omega)]
  have v3 : ∀ c j, gp (si G 23 5 0) c j = gp G c j := fun _ _ => rfl
  unfold f_Remembered_prove
  simp only [wG]
  generalize si G 23 5 0 = G' at *
  obtain ⟨hMD, hlo, hhi⟩ := MD_fr (G' := G') (fun c k q => v2 c k (by omega)) h
  have ha := agrC hMD 0
  rw [hlo, hhi] at ha
  rw [ha, Option.bind_some]
  have hcl := cn_le (loF G p) (hiF G p) 0 n
  have hn := h.2.1
  have u7 : gi (si G' 23 7 (cn (loF G p) (hiF G p) 0 n : Int)) 23 7 = cn (loF G p) (hiF G p) 0 n := by rw [gi_si, if_pos ⟨rfl, rfl⟩]; exact wr_of (by omega) (by omega)
  have u5 : gi (si G' 23 7 (cn (loF G p) (hiF G p) 0 n : Int)) 23 5 = 0 := by rw [gi_si, if_neg (by omega)]; exact v5
  have u2 : ∀ c j, ¬ (c = 23 ∧ 5 ≤ j) → gi (si G' 23 7 (cn (loF G p) (hiF G p) 0 n : Int)) c j = gi G' c j := fun c j q => by rw [gi_si, if_neg (by omega)]
  have u3 : ∀ c j, gp (si G' 23 7 (cn (loF G p) (hiF G p) 0 n : Int)) c j = gp G' c j := fun _ _ => rfl
  generalize si G' 23 7 (cn (loF G p) (hiF G p) 0 n : Int) = G'' at *
  obtain ⟨hMD2, hlo2, hhi2⟩ := MD_fr (G' := G'') (fun c k q => u2 c k (by omega)) hMD
  obtain ⟨G1, r1, r2, r3, r4⟩ := prv_L (lo := loF G p) (hi := hiF G p) FU G'' 0 (by omega) (by unfold FU; omega) hMD2 (hlo2.trans hlo) (hhi2.trans hhi) (by omega) (by rw [u7, u5]) (by rw [u5]; exact ⟨Nat.le_refl _, fun _ => by omega⟩) (fun j hj => by omega)
  exact ⟨G1, r1, fun c j q => by rw [r2 c j q, u2 c j q, v2 c j q], fun c j => by rw [r3, u3, v3], r4⟩
/-- what stands behind the reference's days up to d -/
def PrM (G : GS) (lo hi : Nat → Int) (n : Nat) (d : Int) : Prop := 0 ≤ gi G 81 79 ∧ gi G 81 79 ≤ gi G 81 80 ∧ gi G 81 80 < d ∧ gi G 81 81 = cn lo hi (gi G 81 79) n ∧ cn lo hi (gi G 81 80) n = cn lo hi (gi G 81 79) n ∧ (∀ x, 0 ≤ x → x < d → cn lo hi x n ≤ cn lo hi (gi G 81 79) n ∧ (cn lo hi x n = cn lo hi (gi G 81 79) n → gi G 81 79 ≤ x ∧ x ≤ gi G 81 80)) ∧ 1 ≤ gi G 81 82 ∧ gi G 81 82 ≤ gi G 81 80 - gi G 81 79 + 1 ∧ (gi G 81 82 = gi G 81 80 - gi G 81 79 + 1 ↔ ∀ x, gi G 81 79 ≤ x → x ≤ gi G 81 80 → cn lo hi x n = cn lo hi (gi G 81 79) n)
def tick (G : GS) (d : Int) : GS := si (si G 81 80 d) 81 82 (gi (si G 81 80 d) 81 82 + 1)
theorem tick_fr (G : GS) (d : Int) : ∀ c k, ¬ (c = 81 ∧ (k = 80 ∨ k = 82)) → gi (tick G d) c k = gi G c k := fun c k q => by
  unfold tick; rw [gi_si, if_neg (by omega), gi_si, if_neg (by omega)]
theorem tick_80 (G : GS) (d : Int) : gi (tick G d) 81 80 = wr d := by
  unfold tick; rw [gi_si, if_neg (by omega), gi_si, if_pos ⟨rfl, rfl⟩]
theorem tick_82 (G : GS) (d : Int) : gi (tick G d) 81 82 = wr (gi G 81 82 + 1) := by
  unfold tick; rw [gi_si, if_pos ⟨rfl, rfl⟩, gi_si, if_neg (by omega)]
def newF (G : GS) (q d : Int) : GS := si (si (si G 81 81 q) 81 79 d) 81 82 0
theorem newF_fr (G : GS) (q d : Int) : ∀ c k, ¬ (c = 81 ∧ (k = 79 ∨ k = 81 ∨ k = 82)) → gi (newF G q d) c k = gi G c k := fun c k z => by
  unfold newF; rw [gi_si, if_neg (by omega), gi_si, if_neg (by omega), gi_si, if_neg (by omega)]
theorem newF_v (G : GS) (q d : Int) : gi (newF G q d) 81 81 = wr q ∧ gi (newF G q d) 81 79 = wr d ∧ gi (newF G q d) 81 82 = 0 := by
  unfold newF
  refine ⟨?_, ?_, ?_⟩
  · rw [gi_si, if_neg (by omega), gi_si, if_neg (by omega), gi_si, if_pos ⟨rfl, rfl⟩]
  · rw [gi_si, if_neg (by omega), gi_si, if_pos ⟨rfl, rfl⟩]
  · rw [gi_si, if_pos ⟨rfl, rfl⟩]; exact wr_zero
theorem pvM_L {p n : Nat} {lo hi : Nat → Int} : ∀ (k : Nat) (G : GS) (d : Nat), d ≤ 30000 → 30000 - d < k → MD G p n → loF G p = lo → hiF G p = hi → ((d = 0 ∧ gi G 81 81 = -1) ∨ (1 ≤ d ∧ PrM G lo hi n d)) → ∃ G1, f_Model_proves_L7 k G p d = some G1 ∧ (∀ c j, ¬ (c = 81 ∧ 79 ≤ j ∧ j ≤ 82) → gi G1 c j = gi G c j) ∧ (∀ c j, gp G1 c j = gp G c j) ∧ PrM G1 lo hi n 30000 := by
  intro k
  induction k with
  | zero => intro G d q1 q2; omega
  | succ k ih =>
    intro G d q1 q2 h hlo hhi hst
    by_cases c : (29999 : Int) < d
    · have : d = 30000 := by omega
      subst this
      rcases hst with z | z
      · omega
      · exact ⟨G, by simp only [f_Model_proves_L7, if_pos c], fun _ _ _ => rfl, fun _ _ => rfl, z.2⟩
    · have hw : wr ((d : Int) + 1) = ((d + 1 : Nat) : Int) := by rw [wr_of (by omega) (by omega)]; omega
      have hwd : wr (d : Int) = d := wr_of (by omega) (by omega)
      have ha := agrM h (d := (d : Int)) (by omega)
      rw [hlo, hhi] at ha
      have hcl := cn_le lo hi (d : Int) n
      have hn := h.2.1
      have hwq : wr (cn lo hi (d : Int) n : Int) = cn lo hi (d : Int) n := wr_of (by omega) (by omega)
      have go : ∀ G' : GS, f_Model_proves_L7 (k + 1) G p d = f_Model_proves_L7 k G' p ((d + 1 : Nat) : Int) → (∀ c j, ¬ (c = 81 ∧ 79 ≤ j ∧ j ≤ 82) → gi G' c j = gi G c j) → (∀ c j, gp G' c j = gp G c j) → PrM G' lo hi n ((d + 1 : Nat) : Int) → ∃ G1, f_Model_proves_L7 (k + 1) G p d = some G1 ∧ (∀ c j, ¬ (c = 81 ∧ 79 ≤ j ∧ j ≤ 82) → gi G1 c j = gi G c j) ∧ (∀ c j, gp G1 c j = gp G c j) ∧ PrM G1 lo hi n 30000 := fun G' e v2 v3 hP => by
        obtain ⟨hMD, hlo', hhi'⟩ := MD_fr (G' := G') (fun c k q => v2 c k (by omega)) h
        obtain ⟨G1, r1, r2, r3, r4⟩ := ih G' (d + 1) (by omega) (by omega) hMD (hlo'.trans hlo) (hhi'.trans hhi) (Or.inr ⟨by omega, hP⟩)
        exact ⟨G1, e.trans r1, fun c j q => (r2 c j q).trans (v2 c j q), fun c j => (r3 c j).trans (v3 c j), r4⟩
      -- a new most
      have fresh : gi G 81 81 < (cn lo hi (d : Int) n : Int) → (∀ x, 0 ≤ x → x < (d : Int) → (cn lo hi x n : Int) ≤ gi G 81 81) → ∃ G1, f_Model_proves_L7 (k + 1) G p d = some G1 ∧ (∀ c j, ¬ (c = 81 ∧ 79 ≤ j ∧ j ≤ 82) → gi G1 c j = gi G c j) ∧ (∀ c j, gp G1 c j = gp G c j) ∧ PrM G1 lo hi n 30000 := fun a b => by
        have nv := newF_v G (cn lo hi (d : Int) n) d
        rw [hwd, hwq] at nv
        have nf := newF_fr G (cn lo hi (d : Int) n) d
        have t80 := tick_80 (newF G (cn lo hi (d : Int) n) d) d
        have t82 := tick_82 (newF G (cn lo hi (d : Int) n) d) d
        have tf := tick_fr (newF G (cn lo hi (d : Int) n) d) d
        have t3 : ∀ c j, gp (tick (newF G (cn lo hi (d : Int) n) d) d) c j = gp G c j := fun _ _ => rfl
        refine go (tick (newF G (cn lo hi (d : Int) n) d) d) ?_ (fun c j q => ?_) t3 ?_
        · simp only [f_Model_proves_L7, if_neg c, ha, Option.bind_some, if_pos (show gi G 81 81 ≤ (cn lo hi (d : Int) n : Int) by omega), if_neg (show ¬ (cn lo hi (d : Int) n : Int) ≤ gi G 81 81 by omega), wG, f_Model_proves_L55, f_Model_proves_L70, hw]
          rfl
        · rw [tf c j (by omega), nf c j (by omega)]
        · unfold PrM
          rw [tf 81 79 (by omega), tf 81 81 (by omega), t80, t82, nv.1, nv.2.1, nv.2.2, hwd, wr_of (x := 0 + 1) (by decide) (by decide)]
          refine ⟨by omega, by omega, by omega, rfl, rfl, fun x x1 x2 => ?_, by omega, by omega, ⟨fun _ x x1 x2 => by rw [show x = (d : Int) by omega], fun _ => by omega⟩⟩
          by_cases z : x = d
          · rw [z]; exact ⟨Nat.le_refl _, fun _ => ⟨by omega, by omega⟩⟩
          · have := b x x1 (by omega)
            exact ⟨by omega, fun y => by omega⟩
      rcases hst with ⟨z1, z2⟩ | ⟨z1, z2⟩
      · exact fresh (by omega) (fun x a b => by omega)
      · obtain ⟨p1, p2, p3, p4, p5, p6, p7, p8, p9⟩ := z2
        by_cases c1 : gi G 81 81 ≤ (cn lo hi (d : Int) n : Int)
        · by_cases c2 : (cn lo hi (d : Int) n : Int) ≤ gi G 81 81
          · have t80 := tick_80 G d
            have t82 := tick_82 G d
            have tf := tick_fr G d
            rw [hwd] at t80
            rw [wr_of (by omega) (by omega)] at t82
            refine go (tick G d) ?_ (fun c j q => tf c j (by omega)) (fun _ _ => rfl) ?_
            · simp only [f_Model_proves_L7, if_neg c, ha, Option.bind_some, if_pos c1, if_pos c2, wG, f_Model_proves_L55, f_Model_proves_L70, hw]
              rfl
            · unfold PrM
              rw [tf 81 79 (by omega), tf 81 81 (by omega), t80, t82]
              refine ⟨p1, by omega, by omega, p4, by omega, fun x x1 x2 => ?_, by omega, by omega, ⟨fun y x x1 x2 => ?_, fun y => ?_⟩⟩
              · by_cases z : x = d
                · rw [z]; exact ⟨by omega, fun _ => ⟨by omega, by omega⟩⟩
                · have := p6 x x1 (by omega)
                  exact ⟨this.1, fun y => by have := this.2 y; omega⟩
              · by_cases z : x = d
                · rw [z]; omega
                · exact (p9.mp (by omega)) x x1 (by omega)
              · have e1 : gi G 81 80 + 1 = (d : Int) := by
                  by_cases z : gi G 81 80 + 1 = (d : Int)
                  · exact z
                  · have := y (gi G 81 80 + 1) (by omega) (by omega)
                    have := (p6 (gi G 81 80 + 1) (by omega) (by omega)).2 this
                    omega
                have := p9.mpr (fun x x1 x2 => y x x1 (by omega))
                omega
          · exact fresh (by omega) (fun x x1 x2 => by have := p6 x x1 x2; omega)
        · refine go G ?_ (fun _ _ _ => rfl) (fun _ _ => rfl) ⟨p1, p2, by omega, p4, p5, fun x x1 x2 => ?_, p7, p8, p9⟩
          · simp only [f_Model_proves_L7, if_neg c, ha, Option.bind_some, if_neg c1, f_Model_proves_L70, hw]
          · by_cases z : x = d
            · rw [z]; exact ⟨by omega, fun y => by omega⟩
            · exact p6 x x1 (by omega)
theorem proves_eq {G : GS} {p n : Nat} (h : MD G p n) : ∃ G1, f_Model_proves G p = some G1 ∧ (∀ c j, ¬ (c = 81 ∧ 79 ≤ j ∧ j ≤ 82) → gi G1 c j = gi G c j) ∧ (∀ c j, gp G1 c j = gp G c j) ∧ PrM G1 (loF G p) (hiF G p) n 30000 := by
  have v5 : gi (si G 81 81 (-1)) 81 81 = -1 := by rw [gi_si, if_pos ⟨rfl, rfl⟩]; exact wr_of (by decide) (by decide)
  have v2 : ∀ c j, ¬ (c = 81 ∧ 79 ≤ j ∧ j ≤ 82) → gi (si G 81 81 (-1)) c j = gi G c j := fun c j q => by rw [gi_si, if_neg (by omega)]
  have v3 : ∀ c j, gp (si G 81 81 (-1)) c j = gp G c j := fun _ _ => rfl
  unfold f_Model_proves
  simp only [wG]
  generalize si G 81 81 (-1) = G' at *
  obtain ⟨hMD, hlo, hhi⟩ := MD_fr (G' := G') (fun c k q => v2 c k (by omega)) h
  obtain ⟨G1, r1, r2, r3, r4⟩ := pvM_L (lo := loF G p) (hi := hiF G p) FU G' 0 (by omega) (by unfold FU; omega) hMD hlo hhi (Or.inl ⟨rfl, v5⟩)
  exact ⟨G1, r1, fun c j q => by rw [r2 c j q, v2 c j q], fun c j => by rw [r3, v3], r4⟩
/-- both tell the same -/
theorem prf_same {GC GM : GS} {lo hi : Nat → Int} {n : Nat} (hn : n ≤ 24) (hC : PrC GC lo hi n) (hM : PrM GM lo hi n 30000) : gi GM 81 79 = gi GC 23 5 ∧ gi GM 81 80 = gi GC 23 6 ∧ gi GM 81 81 = gi GC 23 7 ∧ (0 ≤ gi GC 23 5 ∧ gi GC 23 5 ≤ gi GC 23 6 ∧ gi GC 23 6 ≤ 29999) ∧ f_Model_isSure GM = some (gi GC 23 8) := by
  obtain ⟨c1, c2, c3, c4, c5⟩ := hC
  obtain ⟨p1, p2, p3, p4, p5, p6, p7, p8, p9⟩ := hM
  have hF : Fst lo hi n (gi GM 81 79) := ⟨⟨p1, by omega⟩, fun d a b => ⟨(p6 d a (by omega)).1, fun y => ((p6 d a (by omega)).2 y).1⟩⟩
  have e1 := Fst_one hF c1
  have hL : Lst lo hi n (gi GM 81 79) (gi GM 81 80) := ⟨⟨by omega, by omega⟩, p5, fun d a b y => ((p6 d a (by omega)).2 y).2⟩
  rw [e1] at hL
  have e2 := Lst_one hL c2
  have e3 : gi GM 81 81 = gi GC 23 7 := by rw [p4, c3, e1]
  refine ⟨e1, e2, e3, ⟨c1.1.1, by omega, c2.1.2⟩, ?_⟩
  have hs : (0 < gi GM 81 81 ∧ gi GM 81 80 - gi GM 81 79 + 1 = gi GM 81 82) ↔ gi GC 23 8 = 1 := by
    rw [c5]
    constructor
    · rintro ⟨a, b⟩
      have := p9.mp b.symm
      rw [e1, e2] at this
      exact ⟨by omega, this⟩
    · rintro ⟨a, b⟩
      refine ⟨by omega, ?_⟩
      rw [← e1, ← e2] at b
      exact (p9.mpr b).symm
  unfold f_Model_isSure
  rw [wr_of (by omega) (by omega)]
  by_cases c : gi GM 81 81 ≤ 0
  · rw [if_pos c]
    have : ¬ gi GC 23 8 = 1 := fun z => by have := (hs.mpr z).1; omega
    rcases c4 with z | z
    · rw [z]
    · exact absurd z this
  · rw [if_neg c]
    by_cases d : gi GM 81 80 - gi GM 81 79 + 1 = gi GM 81 82
    · rw [if_pos d, hs.mp ⟨by omega, d⟩]
    · rw [if_neg d]
      have : ¬ gi GC 23 8 = 1 := fun z => d (hs.mpr z).2
      rcases c4 with z | z
      · rw [z]
      · exact absurd z this
