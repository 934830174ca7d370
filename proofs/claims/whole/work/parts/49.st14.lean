/-! the tape, more -/
theorem pushM_app (a b : List Int) : ∀ G : GS, pushM G (a ++ b) = pushM (pushM G a) b := by
  induction a with
  | nil => intro G; rfl
  | cons v t ih => intro G; exact ih _
theorem pushM_x (l : List Int) : ∀ (G : GS), 0 ≤ gi G 81 43 → gi G 81 43 + l.length ≤ 800 → gi (pushM G l) 81 43 = gi G 81 43 + l.length ∧ (∀ c k, c ≠ 117 → ¬ (c = 81 ∧ k = 43) → gi (pushM G l) c k = gi G c k) ∧ (∀ k : Nat, ((k : Int) < gi G 81 43 ∨ gi G 81 43 + l.length ≤ k) → gi (pushM G l) 117 k = gi G 117 k) ∧ (∀ i : Nat, i < l.length → gi (pushM G l) 117 ((gi G 81 43).toNat + i) = wr (l.getD i 0)) ∧ ∀ c k, gp (pushM G l) c k = gp G c k := by
  induction l with
  | nil =>
    intro G h0 h1
    refine ⟨by simp [pushM], fun c k _ _ => rfl, fun k _ => rfl, fun i hi => ?_, fun c k => rfl⟩
    simp at hi
  | cons v t ih =>
    intro G h0 h1
    rw [List.length_cons] at h1
    have hw : wr (gi G 81 43 + 1) = gi G 81 43 + 1 := wr_of (by omega) (by omega)
    have e1 : gi (si (si G 117 (gi G 81 43).toNat v) 81 43 (gi G 81 43 + 1)) 81 43 = gi G 81 43 + 1 := by simp [gi_si, hw]
    have e2 : ∀ c k, ¬ (c = 117 ∧ k = (gi G 81 43).toNat) → ¬ (c = 81 ∧ k = 43) → gi (si (si G 117 (gi G 81 43).toNat v) 81 43 (gi G 81 43 + 1)) c k = gi G c k := fun c k q1 q2 => by
      rw [gi_si, if_neg q2, gi_si, if_neg q1]
    have e3 : gi (si (si G 117 (gi G 81 43).toNat v) 81 43 (gi G 81 43 + 1)) 117 (gi G 81 43).toNat = wr v := by simp [gi_si]
    have e4 : ∀ c k, gp (si (si G 117 (gi G 81 43).toNat v) 81 43 (gi G 81 43 + 1)) c k = gp G c k := fun _ _ => rfl
    rw [show pushM G (v :: t) = pushM (si (si G 117 (gi G 81 43).toNat v) 81 43 (gi G 81 43 + 1)) t from rfl]
    generalize si (si G 117 (gi G 81 43).toNat v) 81 43 (gi G 81 43 + 1) = G1 at *
    obtain ⟨a1, a2, a3, a4, a5⟩ := ih G1 (by omega) (by omega)
    refine ⟨by rw [a1, e1, List.length_cons]; omega, fun c k q1 q2 => by rw [a2 c k q1 q2, e2 c k (fun z => q1 z.1) q2], fun k q => ?_, fun i hi => ?_, fun c k => (a5 c k).trans (e4 c k)⟩
    · rw [List.length_cons] at q
      rw [a3 k (by omega), e2 117 k (by omega) (by omega)]
    · rw [List.length_cons] at hi
      rcases Nat.eq_zero_or_pos i with z | z
      · subst z
        rw [Nat.add_zero, a3 _ (by omega), e3]
        rfl
      · obtain ⟨j, rfl⟩ : ∃ j, i = j + 1 := ⟨i - 1, by omega⟩
        rw [show (gi G 81 43).toNat + (j + 1) = (gi G1 81 43).toNat + j by omega, a4 j (by omega)]
        rfl
theorem put_s {G : GS} {x s : Int} {n : Nat} (h0 : 0 ≤ gi G 15 1) (h1 : gi G 15 1 < 800) (hs : 0 ≤ s) : f_Text_put_L3 (n + 1) G x s = f_Text_put_L3 n (si (si G 16 (gi G 15 1).toNat (w8 (bShr x s))) 15 1 (gi G 15 1 + 1)) x (wr (s + -8)) := by
  have e : gi (si G 16 (gi G 15 1).toNat (w8 (bShr x s))) 15 1 = gi G 15 1 := by simp [gi_si]
  simp only [f_Text_put_L3, if_neg (show ¬ s < 0 by omega), if_neg (show ¬ 800 ≤ gi G 15 1 by omega), gd, if_pos (show 0 ≤ gi G 15 1 ∧ gi G 15 1 < 800 from ⟨h0, h1⟩), wG, e]
theorem put_e {G : GS} {x s : Int} {n : Nat} (hs : s < 0) : f_Text_put_L3 (n + 1) G x s = some G := by
  simp only [f_Text_put_L3, if_pos hs]
def quad (x : Int) : List Int := [w8 (bShr x 24), w8 (bShr x 16), w8 (bShr x 8), w8 (bShr x 0)]
theorem put_eq {G : GS} {x : Int} (h0 : 0 ≤ gi G 15 1) (h1 : gi G 15 1 + 4 ≤ 800) : f_Text_put G x = some (pushC G (quad x)) := by
  have up : ∀ (H : GS) (v : Int), 0 ≤ gi H 15 1 → gi H 15 1 < 800 → gi (si (si H 16 (gi H 15 1).toNat v) 15 1 (gi H 15 1 + 1)) 15 1 = gi H 15 1 + 1 := fun H v q1 q2 => by
    have hw : wr (gi H 15 1 + 1) = gi H 15 1 + 1 := wr_of (by omega) (by omega)
    simp [gi_si, hw]
  unfold f_Text_put quad
  rw [show FU = 39995 + 1 + 1 + 1 + 1 + 1 from rfl, put_s h0 (by omega) (by decide), show wr (24 + -8) = 16 from wr_of (by decide) (by decide)]
  simp only [pushC]
  have u1 := up G (w8 (bShr x 24)) h0 (by omega)
  generalize si (si G 16 (gi G 15 1).toNat (w8 (bShr x 24))) 15 1 (gi G 15 1 + 1) = G1 at *
  rw [put_s (by omega) (by omega) (by decide), show wr (16 + -8) = 8 from wr_of (by decide) (by decide)]
  have u2 := up G1 (w8 (bShr x 16)) (by omega) (by omega)
  generalize si (si G1 16 (gi G1 15 1).toNat (w8 (bShr x 16))) 15 1 (gi G1 15 1 + 1) = G2 at *
  rw [put_s (by omega) (by omega) (by decide), show wr (8 + -8) = 0 from wr_of (by decide) (by decide)]
  have u3 := up G2 (w8 (bShr x 8)) (by omega) (by omega)
  generalize si (si G2 16 (gi G2 15 1).toNat (w8 (bShr x 8))) 15 1 (gi G2 15 1 + 1) = G3 at *
  rw [put_s (by omega) (by omega) (by decide), show wr (0 + -8) = -8 from wr_of (by decide) (by decide), put_e (by decide)]
