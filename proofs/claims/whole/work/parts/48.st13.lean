/-! the tape: bytes put at its end -/
def pushC (G : GS) : List Int → GS
  | [] => G
  | v :: t => pushC (si (si G 16 (gi G 15 1).toNat v) 15 1 (gi G 15 1 + 1)) t
def pushM (G : GS) : List Int → GS
  | [] => G
  | v :: t => pushM (si (si G 117 (gi G 81 43).toNat v) 81 43 (gi G 81 43 + 1)) t
theorem pushC_app (a b : List Int) : ∀ G : GS, pushC G (a ++ b) = pushC (pushC G a) b := by
  induction a with
  | nil => intro G; rfl
  | cons v t ih => intro G; exact ih _
theorem pushC_x (l : List Int) : ∀ (G : GS), 0 ≤ gi G 15 1 → gi G 15 1 + l.length ≤ 800 → gi (pushC G l) 15 1 = gi G 15 1 + l.length ∧ (∀ c k, c ≠ 16 → ¬ (c = 15 ∧ k = 1) → gi (pushC G l) c k = gi G c k) ∧ (∀ k : Nat, ((k : Int) < gi G 15 1 ∨ gi G 15 1 + l.length ≤ k) → gi (pushC G l) 16 k = gi G 16 k) ∧ (∀ i : Nat, i < l.length → gi (pushC G l) 16 ((gi G 15 1).toNat + i) = wr (l.getD i 0)) ∧ ∀ c k, gp (pushC G l) c k = gp G c k := by
  induction l with
  | nil =>
    intro G h0 h1
    refine ⟨by simp [pushC], fun c k _ _ => rfl, fun k _ => rfl, fun i hi => ?_, fun c k => rfl⟩
    simp at hi
  | cons v t ih =>
    intro G h0 h1
    rw [List.length_cons] at h1
    have hw : wr (gi G 15 1 + 1) = gi G 15 1 + 1 := wr_of (by omega) (by omega)
    have e1 : gi (si (si G 16 (gi G 15 1).toNat v) 15 1 (gi G 15 1 + 1)) 15 1 = gi G 15 1 + 1 := by simp [gi_si, hw]
    have e2 : ∀ c k, ¬ (c = 16 ∧ k = (gi G 15 1).toNat) → ¬ (c = 15 ∧ k = 1) → gi (si (si G 16 (gi G 15 1).toNat v) 15 1 (gi G 15 1 + 1)) c k = gi G c k := fun c k q1 q2 => by
      rw [gi_si, if_neg q2, gi_si, if_neg q1]
    have e3 : gi (si (si G 16 (gi G 15 1).toNat v) 15 1 (gi G 15 1 + 1)) 16 (gi G 15 1).toNat = wr v := by simp [gi_si]
    have e4 : ∀ c k, gp (si (si G 16 (gi G 15 1).toNat v) 15 1 (gi G 15 1 + 1)) c k = gp G c k := fun _ _ => rfl
    rw [show pushC G (v :: t) = pushC (si (si G 16 (gi G 15 1).toNat v) 15 1 (gi G 15 1 + 1)) t from rfl]
    generalize si (si G 16 (gi G 15 1).toNat v) 15 1 (gi G 15 1 + 1) = G1 at *
    obtain ⟨a1, a2, a3, a4, a5⟩ := ih G1 (by omega) (by omega)
    refine ⟨by rw [a1, e1, List.length_cons]; omega, fun c k q1 q2 => by rw [a2 c k q1 q2, e2 c k (fun z => q1 z.1) q2], fun k q => ?_, fun i hi => ?_, fun c k => (a5 c k).trans (e4 c k)⟩
    · rw [List.length_cons] at q
      rw [a3 k (by omega), e2 16 k (by omega) (by omega)]
    · rw [List.length_cons] at hi
      rcases Nat.eq_zero_or_pos i with z | z
      · subst z
        rw [Nat.add_zero, a3 _ (by omega), e3]
        rfl
      · obtain ⟨j, rfl⟩ : ∃ j, i = j + 1 := ⟨i - 1, by omega⟩
        rw [show (gi G 15 1).toNat + (j + 1) = (gi G1 15 1).toNat + j by omega, a4 j (by omega)]
        rfl
