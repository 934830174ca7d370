/-! the step of feed -/
def bytC (x1 x2 x3 x4 x5 : Int) : List Int := quad x1 ++ (quad x2 ++ (quad x3 ++ (quad x4 ++ quad x5)))
def bytM (x1 x2 x3 x4 x5 : Int) : List Int := (List.range 20).map (fun j : Nat => mb x1 x2 x3 x4 x5 (20 - ((20 : Nat) : Int) + (j : Int)))
theorem byt_eq (x1 x2 x3 x4 x5 : Int) : bytM x1 x2 x3 x4 x5 = (bytC x1 x2 x3 x4 x5).map (fun b => if b < 0 then b + 256 else b) := by
  have r : List.range 20 = [0, 1, 2, 3, 4, 5, 6, 7, 8, 9, 10, 11, 12, 13, 14, 15, 16, 17, 18, 19] := by decide
  have m0 : md 0 4 = 0 := by decide
  have m1 : md 1 4 = 1 := by decide
  have m2 : md 2 4 = 2 := by decide
  have m3 : md 3 4 = 3 := by decide
  have m4 : md 4 4 = 0 := by decide
  have m5 : md 5 4 = 1 := by decide
  have m6 : md 6 4 = 2 := by decide
  have m7 : md 7 4 = 3 := by decide
  have m8 : md 8 4 = 0 := by decide
  have m9 : md 9 4 = 1 := by decide
  have m10 : md 10 4 = 2 := by decide
  have m11 : md 11 4 = 3 := by decide
  have m12 : md 12 4 = 0 := by decide
  have m13 : md 13 4 = 1 := by decide
  have m14 : md 14 4 = 2 := by decide
  have m15 : md 15 4 = 3 := by decide
  have m16 : md 16 4 = 0 := by decide
  have m17 : md 17 4 = 1 := by decide
  have m18 : md 18 4 = 2 := by decide
  have m19 : md 19 4 = 3 := by decide
  unfold bytM bytC quad
  rw [r]
  simp [mb, byte_eq, m0, m1, m2, m3, m4, m5, m6, m7, m8, m9, m10, m11, m12, m13, m14, m15, m16, m17, m18, m19]
theorem H_feed {G : GS} {x1 x2 x3 x4 x5 : Int} (h0 : 0 ≤ gi G 15 1) (h1 : gi G 15 1 + 20 ≤ 800) : f_Hall_feed G x1 x2 x3 x4 x5 = some (gi (pushC G (bytC x1 x2 x3 x4 x5)) 15 1, pushC G (bytC x1 x2 x3 x4 x5)) := by
  have hw : wr (gi G 15 1 + 20) = gi G 15 1 + 20 := wr_of (by omega) (by omega)
  have L : ∀ x, (quad x).length = 4 := fun x => rfl
  unfold f_Hall_feed bytC
  rw [hw, if_pos h1, put_eq h0 (by omega)]
  have a1 := (pushC_x (quad x1) G h0 (by rw [L]; omega)).1
  rw [L] at a1
  simp only [Option.bind_some, pushC_app]
  generalize pushC G (quad x1) = G1 at *
  rw [put_eq (by omega) (by omega)]
  have a2 := (pushC_x (quad x2) G1 (by omega) (by rw [L]; omega)).1
  rw [L] at a2
  simp only [Option.bind_some]
  generalize pushC G1 (quad x2) = G2 at *
  rw [put_eq (by omega) (by omega)]
  have a3 := (pushC_x (quad x3) G2 (by omega) (by rw [L]; omega)).1
  rw [L] at a3
  simp only [Option.bind_some]
  generalize pushC G2 (quad x3) = G3 at *
  rw [put_eq (by omega) (by omega)]
  have a4 := (pushC_x (quad x4) G3 (by omega) (by rw [L]; omega)).1
  rw [L] at a4
  simp only [Option.bind_some]
  generalize pushC G3 (quad x4) = G4 at *
  rw [put_eq (by omega) (by omega)]
  rfl
theorem M_feed {G : GS} {x1 x2 x3 x4 x5 : Int} (h0 : 0 ≤ gi G 81 43) (h1 : gi G 81 43 + 20 ≤ 800) : f_Model_feed G x1 x2 x3 x4 x5 = some (gi (pushM G (bytM x1 x2 x3 x4 x5)) 81 43, pushM G (bytM x1 x2 x3 x4 x5)) := by
  have hw : wr (gi G 81 43 + 20) = gi G 81 43 + 20 := wr_of (by omega) (by omega)
  unfold f_Model_feed
  rw [hw, if_pos h1]
  exact feed_all x1 x2 x3 x4 x5 20 G FU (by decide) (by unfold FU; decide) h0 (by omega)
