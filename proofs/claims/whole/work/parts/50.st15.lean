/-! the tape: the reference's twenty bytes -/
def mb (x1 x2 x3 x4 x5 i : Int) : Int := bAnd (bShr (if i < 4 then x1 else if i < 8 then x2 else if i < 12 then x3 else if i < 16 then x4 else x5) (24 - (8 * (md i 4)))) 255
theorem feed_s {G : GS} {x1 x2 x3 x4 x5 i : Int} {n : Nat} (h0 : 0 ≤ gi G 81 43) (h1 : gi G 81 43 < 800) (hi : 0 ≤ i ∧ i < 20) : f_Model_feed_L18 (n + 1) G x1 x2 x3 x4 x5 i = f_Model_feed_L18 n (si (si G 117 (gi G 81 43).toNat (mb x1 x2 x3 x4 x5 i)) 81 43 (gi G 81 43 + 1)) x1 x2 x3 x4 x5 (i + 1) := by
  have hw : wr (i + 1) = i + 1 := wr_of (by omega) (by omega)
  have e : ∀ v, gi (si G 117 (gi G 81 43).toNat v) 81 43 = gi G 81 43 := fun v => by simp [gi_si]
  have hL : ∀ s, f_Model_feed_L71 (f_Model_feed_L18 n) G x1 x2 x3 x4 x5 i s = f_Model_feed_L18 n (si (si G 117 (gi G 81 43).toNat (bAnd (bShr s (24 - (8 * (md i 4)))) 255)) 81 43 (gi G 81 43 + 1)) x1 x2 x3 x4 x5 (i + 1) := fun s => by
    simp only [f_Model_feed_L71, gd, if_pos (show 0 ≤ gi G 81 43 ∧ gi G 81 43 < 800 from ⟨h0, h1⟩), wG, e, hw]
  simp only [f_Model_feed_L18, hL, if_neg (show ¬ 20 ≤ i by omega), mb]
  by_cases c1 : 4 ≤ i
  · by_cases c2 : 8 ≤ i
    · by_cases c3 : 12 ≤ i
      · by_cases c4 : 16 ≤ i
        · simp only [if_pos c1, if_pos c2, if_pos c3, if_pos c4, if_neg (show ¬ i < 4 by omega), if_neg (show ¬ i < 8 by omega), if_neg (show ¬ i < 12 by omega), if_neg (show ¬ i < 16 by omega)]
        · simp only [if_pos c1, if_pos c2, if_pos c3, if_neg c4, if_neg (show ¬ i < 4 by omega), if_neg (show ¬ i < 8 by omega), if_neg (show ¬ i < 12 by omega), if_pos (show i < 16 by omega)]
      · simp only [if_pos c1, if_pos c2, if_neg c3, if_neg (show ¬ i < 4 by omega), if_neg (show ¬ i < 8 by omega), if_pos (show i < 12 by omega)]
    · simp only [if_pos c1, if_neg c2, if_neg (show ¬ i < 4 by omega), if_pos (show i < 8 by omega)]
  · simp only [if_neg c1, if_pos (show i < 4 by omega)]
theorem feed_all (x1 x2 x3 x4 x5 : Int) : ∀ (k : Nat) (G : GS) (n : Nat), k ≤ 20 → k < n → 0 ≤ gi G 81 43 → gi G 81 43 + k ≤ 800 → f_Model_feed_L18 n G x1 x2 x3 x4 x5 (20 - (k : Int)) = some (gi (pushM G ((List.range k).map (fun j : Nat => mb x1 x2 x3 x4 x5 (20 - (k : Int) + (j : Int))))) 81 43, pushM G ((List.range k).map (fun j : Nat => mb x1 x2 x3 x4 x5 (20 - (k : Int) + (j : Int))))) := by
  intro k
  induction k with
  | zero =>
    intro G n h1 h2 h3 h4
    obtain ⟨m, rfl⟩ : ∃ m, n = m + 1 := ⟨n - 1, by omega⟩
    simp [f_Model_feed_L18, pushM]
  | succ k ih =>
    intro G n h1 h2 h3 h4
    obtain ⟨m, rfl⟩ : ∃ m, n = m + 1 := ⟨n - 1, by omega⟩
    have hw : wr (gi G 81 43 + 1) = gi G 81 43 + 1 := wr_of (by omega) (by omega)
    rw [feed_s h3 (by omega) (by omega), List.range_succ_eq_map, List.map_cons, List.map_map]
    rw [show (20 - ((k + 1 : Nat) : Int) + ((0 : Nat) : Int)) = 20 - ((k + 1 : Nat) : Int) by omega]
    simp only [pushM]
    have e1 : gi (si (si G 117 (gi G 81 43).toNat (mb x1 x2 x3 x4 x5 (20 - ((k + 1 : Nat) : Int)))) 81 43 (gi G 81 43 + 1)) 81 43 = gi G 81 43 + 1 := by simp [gi_si, hw]
    generalize si (si G 117 (gi G 81 43).toNat (mb x1 x2 x3 x4 x5 (20 - ((k + 1 : Nat) : Int)))) 81 43 (gi G 81 43 + 1) = G1 at *
    have z := ih G1 m (by omega) (by omega) (by omega) (by omega)
    rw [show (20 - ((k + 1 : Nat) : Int) + 1) = 20 - (k : Int) by omega, z]
    have hf : ((fun j : Nat => mb x1 x2 x3 x4 x5 (20 - ((k + 1 : Nat) : Int) + (j : Int))) ∘ Nat.succ) = fun j : Nat => mb x1 x2 x3 x4 x5 (20 - (k : Int) + (j : Int)) := by
      funext j
      show mb x1 x2 x3 x4 x5 (20 - ((k + 1 : Nat) : Int) + ((j + 1 : Nat) : Int)) = _
      congr 1
      omega
    rw [hf]
