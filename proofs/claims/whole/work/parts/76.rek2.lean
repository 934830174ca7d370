/-! lines worked out -/
def Rk (G G' : GS) : Prop := (∀ c k, c ≠ 35 → c ≠ 37 → gi G' c k = gi G c k) ∧ ∀ c k, gp G' c k = gp G c k
theorem Rk.rf (G : GS) : Rk G G := ⟨fun _ _ _ _ => rfl, fun _ _ => rfl⟩
theorem Rk.trans {A B C : GS} (h1 : Rk A B) (h2 : Rk B C) : Rk A C := ⟨fun c k a b => (h2.1 c k a b).trans (h1.1 c k a b), fun c k => (h2.2 c k).trans (h1.2 c k)⟩
theorem Rk_si {G : GS} {c k : Nat} {v : Int} (h : c = 35 ∨ c = 37) : Rk G (si G c k v) := ⟨fun c' k' a b => by rw [gi_si, if_neg (by omega)], fun _ _ => rfl⟩
theorem push_fr {G G' : GS} {v : Int} (h : f_Reckoner_push G v = some G') : Rk G G' := by
  unfold f_Reckoner_push at h
  by_cases c : 64 ≤ gi G 35 2
  · rw [if_pos c] at h; cases h; exact Rk.rf G
  · rw [if_neg c] at h
    unfold gd at h
    by_cases d : 0 ≤ gi G 35 2 ∧ gi G 35 2 < 64
    · rw [if_pos d] at h
      simp only [wG] at h
      cases h
      exact (Rk_si (Or.inr rfl)).trans (Rk_si (Or.inl rfl))
    · rw [if_neg d] at h; cases h
theorem pop_fr {G : GS} {r : Int × GS} (h : f_Reckoner_pop G = some r) : Rk G r.2 := by
  unfold f_Reckoner_pop at h
  by_cases c : 0 < gi G 35 2
  · rw [if_pos c] at h
    simp only [wG] at h
    unfold gd at h
    split at h
    · cases h; exact Rk_si (Or.inl rfl)
    · cases h
  · rw [if_neg c] at h; cases h; exact Rk.rf G
theorem L108_fr {G G' : GS} {a b : Int} (h : f_Reckoner_work_L108 G a b = some G') : Rk G G' := by
  unfold f_Reckoner_work_L108 at h
  simp only [wG] at h
  cases h
  exact Rk_si (Or.inl rfl)
theorem L141_fr {G G' : GS} {a : Int} (h : f_Reckoner_work_L141 G a = some G') : Rk G G' := by
  unfold f_Reckoner_work_L141 gd at h
  split at h
  · simp only [wG] at h
    cases h
    exact Rk_si (Or.inl rfl)
  · cases h
theorem L88_fr {G G' : GS} {a : Int} (h : f_Reckoner_work_L88 G a = some G') : Rk G G' := by
  unfold f_Reckoner_work_L88 at h
  obtain ⟨q, h1, h2⟩ := Option.bind_eq_some_iff.mp h
  split at h2
  · exact (pop_fr h1).trans (L108_fr h2)
  · exact (pop_fr h1).trans (L108_fr h2)
theorem L28_fr {G G' : GS} {k : Int} (h : f_Reckoner_work_L28 G k = some G') : Rk G G' := by
  unfold f_Reckoner_work_L28 at h
  by_cases c1 : k = 129
  · rw [if_pos c1] at h
    obtain ⟨q, h1, h2⟩ := Option.bind_eq_some_iff.mp h
    obtain ⟨q2, h3, h4⟩ := Option.bind_eq_some_iff.mp h2
    cases h4
    exact (pop_fr h1).trans (push_fr h3)
  rw [if_neg c1] at h
  by_cases c2 : k = 120
  · rw [if_pos c2] at h
    obtain ⟨q, h1, h2⟩ := Option.bind_eq_some_iff.mp h
    simp only [wG] at h2
    cases h2
    exact (pop_fr h1).trans (Rk_si (Or.inl rfl))
  rw [if_neg c2] at h
  by_cases c3 : k = 126
  · rw [if_pos c3] at h
    obtain ⟨q, h1, h2⟩ := Option.bind_eq_some_iff.mp h
    split at h2
    · exact (pop_fr h1).trans (L88_fr h2)
    · exact (pop_fr h1).trans (L88_fr h2)
  rw [if_neg c3] at h
  by_cases c4 : k = 114
  · rw [if_pos c4] at h
    obtain ⟨q, h1, h2⟩ := Option.bind_eq_some_iff.mp h
    unfold f_Reckoner_work_L136 at h2
    split at h2
    · split at h2
      · exact (pop_fr h1).trans (L141_fr h2)
      · exact (pop_fr h1).trans (L141_fr h2)
    · exact (pop_fr h1).trans (L141_fr h2)
  rw [if_neg c4] at h
  obtain ⟨q, h1, h2⟩ := Option.bind_eq_some_iff.mp h
  obtain ⟨q2, h3, h4⟩ := Option.bind_eq_some_iff.mp h2
  obtain ⟨q3, h5, h6⟩ := Option.bind_eq_some_iff.mp h4
  obtain ⟨q4, h7, h8⟩ := Option.bind_eq_some_iff.mp h6
  cases h8
  exact (pop_fr h1).trans ((pop_fr h3).trans (push_fr h7))
theorem item_fr {G G' : GS} {x : Int} (h : itemC G x = some G') : Rk G G' := by
  unfold itemC f_Reckoner_work at h
  split at h
  · split at h
    · exact L28_fr h
    · split at h
      · exact L28_fr h
      · unfold gd at h
        split at h
        · obtain ⟨q, h1, h2⟩ := Option.bind_eq_some_iff.mp h
          cases h2
          exact push_fr h1
        · cases h
  · exact push_fr h
theorem run_fr : ∀ (l : List Int) (G G' : GS), runC G l = some G' → Rk G G' := by
  intro l
  induction l with
  | nil => intro G G' h; cases h; exact Rk.rf G
  | cons x t ih =>
    intro G G' h
    obtain ⟨q, h1, h2⟩ := Option.bind_eq_some_iff.mp h
    exact (item_fr h1).trans (ih q G' h2)

theorem L17_run {c : Nat} (hc : c ≠ 35 ∧ c ≠ 37 ∧ c + 5 ≠ 35 ∧ c + 5 ≠ 37) {T : Nat} (hT : T ≤ 800) : ∀ (l : List Int) (n : Nat) (G G' : GS) (x : Nat), gi G c 9 = T → x + l.length ≤ T → (∀ i, i < l.length → gi G (c + 5) (x + i) = l.getD i 0) → runC G l = some G' → f_Reckoner_reckon_L17 (n + l.length) G c x = f_Reckoner_reckon_L17 n G' c ((x + l.length : Nat) : Int) := by
  intro l
  induction l with
  | nil => intro n G G' x _ _ _ h; cases h; rfl
  | cons v t ih =>
    intro n G G' x h9 hx hcode h
    rw [List.length_cons] at hx
    obtain ⟨q, h1, h2⟩ := Option.bind_eq_some_iff.mp h
    have fr := item_fr h1
    have hv : gi G (c + 5) x = v := hcode 0 (by rw [List.length_cons]; omega)
    have hw : wr ((x : Int) + 1) = ((x + 1 : Nat) : Int) := by rw [wr_of (by omega) (by omega)]; omega
    have hi := ih n q G' (x + 1) (by rw [fr.1 c 9 hc.1 hc.2.1]; exact h9) (by omega) (fun i hi => by
      rw [fr.1 (c + 5) _ hc.2.2.1 hc.2.2.2, show x + 1 + i = x + (i + 1) by omega, hcode (i + 1) (by rw [List.length_cons]; omega)]
      rfl) h2
    rw [List.length_cons, ← Nat.add_assoc, show x + (t.length + 1) = x + 1 + t.length by omega, ← hi]
    unfold itemC at h1
    by_cases z : v < 0
    · rw [if_pos z] at h1
      rw [f_Reckoner_reckon_L17, h9, if_neg (show ¬ (T : Int) ≤ x by omega), gd, if_pos (show (0 : Int) ≤ (x : Int) ∧ (x : Int) < 800 by omega), Int.toNat_natCast, hv, if_pos z, h1, Option.bind_some, f_Reckoner_reckon_L50, hw]
    · rw [if_neg z] at h1
      rw [f_Reckoner_reckon_L17, h9, if_neg (show ¬ (T : Int) ≤ x by omega), gd, if_pos (show (0 : Int) ≤ (x : Int) ∧ (x : Int) < 800 by omega), Int.toNat_natCast, hv, if_neg z, h1, Option.bind_some, f_Reckoner_reckon_L50, hw]
def evH (A : Nat → Int) (f : Fm) : Int := (evF A f []).headD 0
/-- what a line does to the sum and to the king's right -/
def linS (A : Nat → Int) (s : Int × Int) (l : Int × Fm × Fm) : Int × Int :=
  if l.1 = 8 then (if l.2.2 = [] ∨ evH A l.2.2 ≠ 0 then (wr (s.1 + evH A l.2.1), s.2) else s) else if l.1 = 9 then (if evH A l.2.2 ≠ 0 then (s.1, 1) else s) else s
theorem TV_f1 {b : Bool} {st : List Int} (h : TV [b] st) : ∃ v, st = [v] ∧ wr v = v ∧ (b = true → v = 0 ∨ v = 1) := by
  obtain ⟨v, vs, rfl, h1, h2, h3⟩ := TV_c h
  cases vs with
  | nil => exact ⟨v, rfl, h2, h1⟩
  | cons _ _ => exact False.elim h3
/-- all that the class keeps between lines -/
def LnC (G : GS) (A : Nat → Int) (s : Int × Int) : Prop := StkC G [] ∧ AskC G A ∧ gi G 35 3 = s.1 ∧ gi G 35 4 = s.2 ∧ (s.2 = 0 ∨ s.2 = 1)
theorem ask_rk {G G' : GS} {A : Nat → Int} (h : Rk G G') (hA : AskC G A) : AskC G' A := fun k hk => by rw [h.1 36 k (by decide) (by decide)]; exact hA k hk
theorem okL_s {l : Int × Fm × Fm} (h : okL l) : okV l.2.1 ∧ okV l.2.2 := ⟨fun q hq => h.2.2.2.2 q (List.mem_append_left _ hq), fun q hq => h.2.2.2.2 q (List.mem_append_right _ hq)⟩
theorem line_C {A : Nat → Int} (hAw : ∀ k, wr (A k) = A k) {G : GS} {l : Int × Fm × Fm} {s : Int × Int} (hl : okL l) (h : LnC G A s) : ∃ G', runC G (clsL' l) = some G' ∧ LnC G' A (linS A s l) := by
  obtain ⟨h1, h2, h3, h4, h5⟩ := h
  obtain ⟨o1, o2⟩ := okL_s hl
  unfold clsL' linS
  have e0 : ([] : List Int) = [] ++ [] := rfl
  by_cases c8 : l.1 = 8
  · rw [if_pos c8, if_pos c8]
    obtain ⟨t1, t2⟩ := hl.2.1 c8
    obtain ⟨G1, r1, r2, r3, r4⟩ := runF_C hAw (base := []) (by decide) l.2.1 G [] [false] [] o1 t1 trivial h2 h1
    obtain ⟨e, he, hew, -⟩ := TV_f1 r4
    have heH : evH A l.2.1 = e := by unfold evH; rw [he]; rfl
    rw [he] at r2
    rw [heH, runC_app, r1, Option.bind_some]
    have f1 := run_fr _ _ _ r1
    have A1 := ask_rk f1 h2
    have s3 : gi G1 35 3 = s.1 := by rw [r3.1 35 3 (by omega)]; exact h3
    have s4 : gi G1 35 4 = s.2 := by rw [r3.1 35 4 (by omega)]; exact h4
    by_cases c0 : l.2.2 = []
    · rw [if_pos c0, if_pos (Or.inl c0)]
      obtain ⟨G2, p1, p2, p3⟩ := pop_eq (v := e) (t := []) r2 (by decide)
      have hn : wr (- -120) = 120 := wr_of (by decide) (by decide)
      refine ⟨si G2 35 3 (s.1 + e), ?_, ⟨?_, trivial⟩, ?_, ?_, ?_, h5⟩
      · simp only [runC, itemC, show (-120 : Int) < 0 by decide, if_true, hn, f_Reckoner_work, show ¬ (120 : Int) < 100 by decide, show (107 : Int) ≤ 120 by decide, if_false, f_Reckoner_work_L28, show ¬ (120 : Int) = 129 by decide, p1, Option.bind_some, wG, s3]
      · rw [gi_si, if_neg (by omega)]; exact p2.1
      · exact ask_rk ((Rk_si (Or.inl rfl))) (AskC_fr p3 A1)
      · rw [gi_si, if_pos ⟨rfl, rfl⟩]
      · rw [gi_si, if_neg (by omega), p3.1 35 4 (by omega)]; exact s4
    · rw [if_neg c0]
      have t3 : typF l.2.2 [] = some [true] := by
        rcases t2 with z | z
        · exact absurd z c0
        · exact z
      obtain ⟨G2, q1, q2, q3, q4⟩ := runF_C hAw (base := [e]) (Nat.le_refl 1) l.2.2 G1 [] [true] [] o2 t3 trivial A1 r2
      obtain ⟨b, hb, -, -⟩ := TV_f1 q4
      have hbH : evH A l.2.2 = b := by unfold evH; rw [hb]; rfl
      rw [hb] at q2
      rw [hbH, runC_app, q1, Option.bind_some]
      have A2 := AskC_fr q3 A1
      obtain ⟨G3, p1, p2, p3⟩ := pop_eq (v := b) (t := [e]) q2 (show 1 < 64 by decide)
      obtain ⟨G4, u1, u2, u3⟩ := pop_eq (v := e) (t := []) p2 (by decide)
      have hn : wr (- -126) = 126 := wr_of (by decide) (by decide)
      have s3' : gi G4 35 3 = s.1 := by rw [u3.1 35 3 (by omega), p3.1 35 3 (by omega), q3.1 35 3 (by omega)]; exact s3
      have s4' : gi G4 35 4 = s.2 := by rw [u3.1 35 4 (by omega), p3.1 35 4 (by omega), q3.1 35 4 (by omega)]; exact s4
      have fin : ∀ x : Int, LnC (si G4 35 3 (s.1 + x)) A (wr (s.1 + x), s.2) := fun x => ⟨⟨by rw [gi_si, if_neg (by omega)]; exact u2.1, trivial⟩, ask_rk (Rk_si (Or.inl rfl)) (AskC_fr u3 (AskC_fr p3 A2)), by rw [gi_si, if_pos ⟨rfl, rfl⟩], by rw [gi_si, if_neg (by omega)]; exact s4', h5⟩
      by_cases z : b = 0
      · rw [if_neg (show ¬ (l.2.2 = [] ∨ b ≠ 0) from fun y => by rcases y with y | y; exact c0 y; exact y z)]
        have f0 := fin 0
        rw [Int.add_zero, ← h3, wr_gi, h3] at f0
        refine ⟨si G4 35 3 (s.1 + 0), ?_, by rw [Int.add_zero]; exact f0⟩
        simp only [runC, itemC, show (-126 : Int) < 0 by decide, if_true, hn, f_Reckoner_work, show ¬ (126 : Int) < 100 by decide, show (107 : Int) ≤ 126 by decide, if_false, f_Reckoner_work_L28, show ¬ (126 : Int) = 129 by decide, show ¬ (126 : Int) = 120 by decide, p1, Option.bind_some, if_pos z, f_Reckoner_work_L88, u1, f_Reckoner_work_L108, wG, s3']
      · rw [if_pos (show (l.2.2 = [] ∨ b ≠ 0) from Or.inr z)]
        refine ⟨si G4 35 3 (s.1 + e), ?_, fin e⟩
        simp only [runC, itemC, show (-126 : Int) < 0 by decide, if_true, hn, f_Reckoner_work, show ¬ (126 : Int) < 100 by decide, show (107 : Int) ≤ 126 by decide, if_false, f_Reckoner_work_L28, show ¬ (126 : Int) = 129 by decide, show ¬ (126 : Int) = 120 by decide, p1, Option.bind_some, if_neg z, f_Reckoner_work_L88, u1, show ¬ (1 : Int) = 0 by decide, f_Reckoner_work_L108, wG, s3']
  · rw [if_neg c8, if_neg c8]
    by_cases c9 : l.1 = 9
    · rw [if_pos c9, if_pos c9]
      obtain ⟨-, t3⟩ := hl.2.2.1 c9
      obtain ⟨G2, q1, q2, q3, q4⟩ := runF_C hAw (base := []) (by decide) l.2.2 G [] [true] [] o2 t3 trivial h2 h1
      obtain ⟨b, hb, -, -⟩ := TV_f1 q4
      have hbH : evH A l.2.2 = b := by unfold evH; rw [hb]; rfl
      rw [hb] at q2
      rw [hbH, runC_app, q1, Option.bind_some]
      have A2 := AskC_fr q3 h2
      obtain ⟨G3, p1, p2, p3⟩ := pop_eq (v := b) (t := []) q2 (by decide)
      have hn : wr (- -114) = 114 := wr_of (by decide) (by decide)
      have s3' : gi G3 35 3 = s.1 := by rw [p3.1 35 3 (by omega), q3.1 35 3 (by omega)]; exact h3
      have s4' : gi G3 35 4 = s.2 := by rw [p3.1 35 4 (by omega), q3.1 35 4 (by omega)]; exact h4
      have fin : ∀ x : Int, (x = 0 ∨ x = 1) → LnC (si G3 35 4 x) A (s.1, x) := fun x hx => ⟨⟨by rw [gi_si, if_neg (by omega)]; exact p2.1, trivial⟩, ask_rk (Rk_si (Or.inl rfl)) (AskC_fr p3 A2), by rw [gi_si, if_neg (by omega)]; exact s3', by rw [gi_si, if_pos ⟨rfl, rfl⟩]; exact wr_of (by omega) (by omega), hx⟩
      have go : itemC G2 (-114) = if b = 0 then (if gi G3 35 4 = 0 then f_Reckoner_work_L141 G3 0 else f_Reckoner_work_L136 G3) else f_Reckoner_work_L136 G3 := by
        simp only [itemC, show (-114 : Int) < 0 by decide, if_true, hn, f_Reckoner_work, show ¬ (114 : Int) < 100 by decide, show (107 : Int) ≤ 114 by decide, if_false, f_Reckoner_work_L28, show ¬ (114 : Int) = 129 by decide, show ¬ (114 : Int) = 120 by decide, show ¬ (114 : Int) = 126 by decide, p1, Option.bind_some]
      have g1 : f_Reckoner_work_L136 G3 = some (si G3 35 4 1) := by
        unfold f_Reckoner_work_L136 f_Reckoner_work_L141
        rw [gd, if_pos (Or.inr rfl)]; rfl
      have g0 : f_Reckoner_work_L141 G3 0 = some (si G3 35 4 0) := by
        unfold f_Reckoner_work_L141
        rw [gd, if_pos (Or.inl rfl)]; rfl
      show ∃ G', (itemC G2 (-114)).bind (fun G' => some G') = some G' ∧ _
      rw [go]
      by_cases z : b = 0
      · rw [if_pos z, if_neg (show ¬ (b ≠ 0) from fun y => y z), s4']
        by_cases y : s.2 = 0
        · rw [if_pos y, g0]
          refine ⟨_, rfl, ?_⟩
          have := fin 0 (Or.inl rfl)
          rw [← y] at this
          rw [← y]
          exact this
        · rw [if_neg y, g1]
          refine ⟨_, rfl, ?_⟩
          have := fin 1 (Or.inr rfl)
          have y1 : s.2 = 1 := by omega
          rw [← y1] at this
          rw [← y1]
          exact this
      · rw [if_neg z, if_pos z, g1]
        exact ⟨_, rfl, fin 1 (Or.inr rfl)⟩
    · rw [if_neg c9, if_neg c9]
      exact ⟨G, rfl, h1, h2, h3, h4, h5⟩
theorem lines_C {A : Nat → Int} (hAw : ∀ k, wr (A k) = A k) : ∀ (ls : List (Int × Fm × Fm)) (G : GS) (s : Int × Int), (∀ l ∈ ls, okL l) → LnC G A s → ∃ G', runC G (codeL ls) = some G' ∧ LnC G' A (ls.foldl (linS A) s) := by
  intro ls
  induction ls with
  | nil => intro G s _ h; exact ⟨G, rfl, h⟩
  | cons l t ih =>
    intro G s ho h
    obtain ⟨G1, r1, r2⟩ := line_C hAw (ho l List.mem_cons_self) h
    obtain ⟨G2, q1, q2⟩ := ih G1 _ (fun x hx => ho x (List.mem_cons_of_mem _ hx)) r2
    refine ⟨G2, ?_, q2⟩
    rw [show codeL (l :: t) = clsL' l ++ codeL t from rfl, runC_app, r1, Option.bind_some]
    exact q1

theorem reck_C {A : Nat → Int} (hAw : ∀ k, wr (A k) = A k) {G : GS} {c : Nat} (hc : lawC c = true) {ls : List (Int × Fm × Fm)} (ho : ∀ l ∈ ls, okL l) (h9 : gi G c 9 = (codeL ls).length) (h800 : (codeL ls).length ≤ 800) (hcode : ∀ i : Nat, i < (codeL ls).length → gi G (c + 5) i = (codeL ls).getD i 0) (hA : AskC G A) : ∃ G', f_Reckoner_reckon G c = some G' ∧ gi G' 35 3 = (ls.foldl (linS A) (0, 0)).1 ∧ gi G' 35 4 = (ls.foldl (linS A) (0, 0)).2 ∧ Rk G G' := by
  have hr := law_rng hc
  have hf : Rk G (si (si (si G 35 2 0) 35 3 0) 35 4 0) := (Rk_si (Or.inl rfl)).trans ((Rk_si (Or.inl rfl)).trans (Rk_si (Or.inl rfl)))
  have v2 : gi (si (si (si G 35 2 0) 35 3 0) 35 4 0) 35 2 = 0 := by simp [gi_si, wr_zero]
  have v3 : gi (si (si (si G 35 2 0) 35 3 0) 35 4 0) 35 3 = 0 := by simp [gi_si, wr_zero]
  have v4 : gi (si (si (si G 35 2 0) 35 3 0) 35 4 0) 35 4 = 0 := by simp [gi_si, wr_zero]
  unfold f_Reckoner_reckon
  simp only [wG]
  generalize si (si (si G 35 2 0) 35 3 0) 35 4 0 = G1 at *
  obtain ⟨G2, r1, r2⟩ := lines_C hAw ls G1 (0, 0) ho ⟨⟨v2, trivial⟩, ask_rk hf hA, v3, v4, Or.inl rfl⟩
  have f2 := run_fr _ _ _ r1
  have e9 : gi G1 c 9 = ((codeL ls).length : Nat) := by rw [hf.1 c 9 (by omega) (by omega)]; exact h9
  have hL := L17_run (c := c) (by omega) h800 (codeL ls) (39200 - (codeL ls).length + 1 + 799) G1 G2 0 e9 (by omega) (fun i hi => by rw [Nat.zero_add, hf.1 (c + 5) i (by omega) (by omega)]; exact hcode i hi) r1
  refine ⟨G2, ?_, r2.2.2.1, r2.2.2.2.1, hf.trans f2⟩
  rw [show FU = 39200 - (codeL ls).length + 1 + 799 + (codeL ls).length by unfold FU; omega]
  rw [show ((0 : Nat) : Int) = 0 from rfl] at hL
  rw [hL]
  have e9' : gi G2 c 9 = ((codeL ls).length : Nat) := by rw [f2.1 c 9 (by omega) (by omega)]; exact e9
  generalize (codeL ls).length = N at *
  rw [show 39200 - N + 1 + 799 = (39200 - N + 799) + 1 by omega]
  rw [f_Reckoner_reckon_L17, e9', if_pos (by omega)]
/-! the reference's -/
def AskM (G : GS) (A : Nat → Int) : Prop := ∀ k, 1 ≤ k → k ≤ 7 → gi G 122 k = A k
def Pf (G G' : GS) : Prop := (∀ c k, c ≠ 118 → gi G' c k = gi G c k) ∧ ∀ c k, gp G' c k = gp G c k
theorem Pf.rf (G : GS) : Pf G G := ⟨fun _ _ _ => rfl, fun _ _ => rfl⟩
theorem Pf.trans {A B C : GS} (h1 : Pf A B) (h2 : Pf B C) : Pf A C := ⟨fun c k z => (h2.1 c k z).trans (h1.1 c k z), fun c k => (h2.2 c k).trans (h1.2 c k)⟩
theorem Pf_si {G : GS} {k : Nat} {v : Int} : Pf G (si G 118 k v) := ⟨fun c' k' z => by rw [gi_ne z], fun _ _ => rfl⟩
theorem Cs_put {G : GS} {t : List Int} {v : Int} (hv : wr v = v) (h : Cs G 118 t) : Cs (si G 118 t.length v) 118 (v :: t) := ⟨by rw [gi_si, if_pos ⟨rfl, rfl⟩]; exact hv, Cs_fr t (fun i hi => by rw [gi_si, if_neg (by omega)]) h⟩

theorem step_M {A : Nat → Int} (hAw : ∀ k, wr (A k) = A k) {G : GS} {r : Nat} (hr : r < 4) {q : Int × Int} {ty ty' : List Bool} {st : List Int} {e : Int} {i : Nat} (hi : (i : Int) < e) (hi2 : i < 810) (hq : q.1 = 0 → 0 ≤ q.2 ∧ q.2 ≤ 99999) (ht : typI q ty = some ty') (hv : TV ty st) (hA : AskM G A) (hs : Cs G 118 st) {x y : Nat} (hx : x = 1620 * r + 2 * i) (hy : y = x + 1) (h1 : gi G 108 x = q.1) (h2 : gi G 108 y = q.2) (n : Nat) : ∃ G', f_Model_comesTo_L6 (n + 1) G r e st.length i = f_Model_comesTo_L6 n G' r e (evI A q st).length ((i + 1 : Nat) : Int) ∧ Cs G' 118 (evI A q st) ∧ Pf G G' := by
  have hlen := TV_len _ _ hv
  obtain ⟨hl, h⟩ := typI_c ht
  have hw : wr ((i : Int) + 1) = ((i + 1 : Nat) : Int) := by rw [wr_of (by omega) (by omega)]; omega
  have w1 : wr ((1620 * (r : Int)) + (2 * (i : Int))) = (x : Int) := by rw [wr_of (by omega) (by omega)]; omega
  have w2 : wr (((1620 * (r : Int)) + (2 * (i : Int))) + 1) = (y : Int) := by rw [wr_of (by omega) (by omega)]; omega
  have g1 : (0 : Int) ≤ (x : Int) ∧ (x : Int) < 6480 := by omega
  have g2 : (0 : Int) ≤ (y : Int) ∧ (y : Int) < 6480 := by omega
  have hie : ¬ e ≤ (i : Int) := by omega
  have two : ∀ (a b : Int) (t : List Int), st = b :: a :: t → 8 ≤ q.1 → q.1 ≠ 11 → q.1 ≠ 15 → (q.1 ≤ 17) → ∃ G', f_Model_comesTo_L6 (n + 1) G r e st.length i = f_Model_comesTo_L6 n G' r e (bothV q.1 a b :: t).length ((i + 1 : Nat) : Int) ∧ Cs G' 118 (bothV q.1 a b :: t) ∧ Pf G G' := by
    intro a b t hst k1 k2 k3 k4
    subst hst
    obtain ⟨s1, s2, s3⟩ := hs
    rw [List.length_cons, List.length_cons] at hlen
    have x1 : wr (((t.length + 1 + 1 : Nat) : Int) + (-1)) = ((t.length + 1 : Nat) : Int) := by rw [wr_of (by omega) (by omega)]; omega
    have x2 : wr (((t.length + 1 : Nat) : Int) - 1) = (t.length : Int) := by rw [wr_of (by omega) (by omega)]; omega
    have hb : f_Model_both G q.1 a b = some (bothV q.1 a b) := by
      unfold f_Model_both bothV
      have hk : q.1 = 8 ∨ q.1 = 9 ∨ q.1 = 10 ∨ q.1 = 12 ∨ q.1 = 13 ∨ q.1 = 14 ∨ q.1 = 16 ∨ q.1 = 17 := by omega
      rcases hk with z | z | z | z | z | z | z | z <;> rw [z]
      · rfl
      · rfl
      · rfl
      · show (if b ≤ a then some 0 else some 1) = some (if a < b then 1 else 0)
        by_cases y : b ≤ a
        · rw [if_pos y, if_neg (by omega)]
        · rw [if_neg y, if_pos (by omega)]
      · show (if a = b then some 1 else some 0) = some (if a = b then 1 else 0)
        split <;> rfl
      · show (if a ≤ b then some 0 else some 1) = some (if b < a then 1 else 0)
        by_cases y : a ≤ b
        · rw [if_pos y, if_neg (by omega)]
        · rw [if_neg y, if_pos (by omega)]
      · rfl
      · rfl
    rw [List.length_cons] at s1
    refine ⟨si G 118 t.length (bothV q.1 a b), ?_, Cs_put (wr_bothV _ _ _) s3, Pf_si⟩
    simp only [f_Model_comesTo_L6, if_neg hie, w1, w2, gd, if_pos g1, if_pos g2, Int.toNat_natCast, h1, if_pos k1, if_neg k2, if_neg k3, x1, x2, if_pos (show (0 : Int) ≤ (t.length : Int) ∧ (t.length : Int) < 820 by omega), if_pos (show (0 : Int) ≤ ((t.length + 1 : Nat) : Int) ∧ ((t.length + 1 : Nat) : Int) < 820 by omega), s2, s1, hb, Option.bind_some, wG, f_Model_comesTo_L172, hw, List.length_cons]
  have one : ∀ (v : Int) (b : Int) (t : List Int), st = b :: t → wr v = v → (f_Model_comesTo_L6 (n + 1) G r e st.length i = f_Model_comesTo_L6 n (si G 118 t.length v) r e st.length ((i + 1 : Nat) : Int)) → ∃ G', f_Model_comesTo_L6 (n + 1) G r e st.length i = f_Model_comesTo_L6 n G' r e (v :: t).length ((i + 1 : Nat) : Int) ∧ Cs G' 118 (v :: t) ∧ Pf G G' := by
    intro v b t hst hv2 e9
    subst hst
    exact ⟨_, e9, Cs_put hv2 hs.2, Pf_si⟩
  unfold evI
  rcases h with ⟨k1, k2, rfl⟩ | ⟨t, rfl, k1, rfl⟩ | ⟨t, rfl, k1, k2, rfl⟩ | ⟨t, rfl, k1, rfl⟩ | ⟨t, rfl, k1, rfl⟩ | ⟨t, rfl, k1, rfl⟩
  · have g3 : (0 : Int) ≤ (st.length : Int) ∧ (st.length : Int) < 820 := by omega
    have hws : wr ((st.length : Int) + 1) = ((st.length + 1 : Nat) : Int) := by rw [wr_of (by omega) (by omega)]; omega
    by_cases c : q.1 = 0
    · have := hq c
      rw [if_pos c]
      refine ⟨si G 118 st.length q.2, ?_, Cs_put (wr_of (by omega) (by omega)) hs, Pf_si⟩
      rw [f_Model_comesTo_L6, if_neg hie, w1, w2, gd, if_pos g1, gd, if_pos g2, Int.toNat_natCast, Int.toNat_natCast, h1, if_neg (show ¬ (8 : Int) ≤ q.1 by omega), if_pos c, h2, f_Model_comesTo_L78, gd, if_pos g3, Int.toNat_natCast, hws]
      show f_Model_comesTo_L6 n (si G 118 st.length q.2) r e ((st.length + 1 : Nat) : Int) (wr ((i : Int) + 1)) = _
      rw [hw, List.length_cons]
    · rw [if_neg c, if_pos k2]
      have hA' := hA q.1.toNat (by omega) (by omega)
      refine ⟨si G 118 st.length (A q.1.toNat), ?_, Cs_put (hAw _) hs, Pf_si⟩
      rw [f_Model_comesTo_L6, if_neg hie, w1, w2, gd, if_pos g1, gd, if_pos g2, Int.toNat_natCast, Int.toNat_natCast, h1, if_neg (show ¬ (8 : Int) ≤ q.1 by omega), if_neg c, gd, if_pos (show 0 ≤ q.1 ∧ q.1 < 8 from ⟨k1, k2⟩), hA', f_Model_comesTo_L78, gd, if_pos g3, Int.toNat_natCast, hws]
      show f_Model_comesTo_L6 n (si G 118 st.length (A q.1.toNat)) r e ((st.length + 1 : Nat) : Int) (wr ((i : Int) + 1)) = _
      rw [hw, List.length_cons]
  · obtain ⟨b, vs, rfl, -, -, hv⟩ := TV_c hv
    obtain ⟨a, vs, rfl, -, -, hv⟩ := TV_c hv
    rw [if_neg (by omega), if_neg (by omega), if_neg (by omega), if_neg (by omega)]
    exact two a b vs rfl (by omega) (by omega) (by omega) (by omega)
  · obtain ⟨b, vs, rfl, -, hbw, hv⟩ := TV_c hv
    rw [if_neg (by omega), if_neg (by omega), if_pos k1]
    rw [List.length_cons] at hlen
    have hvl : vs.length ≤ 60 := by simp only [List.length_cons] at hl hlen; omega
    have x1 : wr (((b :: vs).length : Int) - 1) = (vs.length : Int) := by rw [List.length_cons, wr_of (by omega) (by omega)]; omega
    refine one (dv b q.2) b vs rfl (wr_dv _ _) ?_
    have sb := hs.1
    simp only [f_Model_comesTo_L6, if_neg hie, w1, w2, gd, if_pos g1, if_pos g2, Int.toNat_natCast, h1, if_pos (show (8 : Int) ≤ q.1 by omega), if_pos k1, x1, if_pos (show (0 : Int) ≤ (vs.length : Int) ∧ (vs.length : Int) < 820 by omega), h2, if_pos (show ¬ q.2 = 0 by omega), sb, wG, f_Model_comesTo_L172, hw]
  · obtain ⟨b, vs, rfl, -, -, hv⟩ := TV_c hv
    obtain ⟨a, vs, rfl, -, -, hv⟩ := TV_c hv
    rw [if_neg (by omega), if_neg (by omega), if_neg (by omega), if_neg (by omega)]
    exact two a b vs rfl (by omega) (by omega) (by omega) (by omega)
  · obtain ⟨b, vs, rfl, -, hbw, hv⟩ := TV_c hv
    rw [if_neg (by omega), if_neg (by omega), if_neg (by omega), if_pos k1]
    rw [List.length_cons] at hlen
    have hvl : vs.length ≤ 60 := by simp only [List.length_cons] at hl hlen; omega
    have x1 : wr (((b :: vs).length : Int) - 1) = (vs.length : Int) := by rw [List.length_cons, wr_of (by omega) (by omega)]; omega
    have sb := hs.1
    have e9 : f_Model_comesTo_L6 (n + 1) G r e (b :: vs).length i = f_Model_comesTo_L6 n (si G 118 vs.length (1 - b)) r e (b :: vs).length ((i + 1 : Nat) : Int) := by
      simp only [f_Model_comesTo_L6, if_neg hie, w1, w2, gd, if_pos g1, if_pos g2, Int.toNat_natCast, h1, if_pos (show (8 : Int) ≤ q.1 by omega), if_neg (show ¬ q.1 = 11 by omega), if_pos k1, x1, if_pos (show (0 : Int) ≤ (vs.length : Int) ∧ (vs.length : Int) < 820 by omega), sb, wG, f_Model_comesTo_L172, hw]
    refine ⟨_, e9, ⟨by rw [gi_si, if_pos ⟨rfl, rfl⟩], Cs_fr vs (fun i hi => by rw [gi_si, if_neg (by omega)]) hs.2⟩, Pf_si⟩
  · obtain ⟨b, vs, rfl, -, -, hv⟩ := TV_c hv
    obtain ⟨a, vs, rfl, -, -, hv⟩ := TV_c hv
    rw [if_neg (by omega), if_neg (by omega), if_neg (by omega), if_neg (by omega)]
    exact two a b vs rfl (by omega) (by omega) (by omega) (by omega)
theorem AskM_fr {G G' : GS} {A : Nat → Int} (h : Pf G G') (hA : AskM G A) : AskM G' A := fun k a b => by rw [h.1 122 k (by decide)]; exact hA k a b
theorem runF_M {A : Nat → Int} (hAw : ∀ k, wr (A k) = A k) {r : Nat} (hr : r < 4) {e : Int} : ∀ (f : Fm) (n : Nat) (G : GS) (ty ty' : List Bool) (st : List Int) (i : Nat), okV f → typF f ty = some ty' → TV ty st → AskM G A → Cs G 118 st → ((i + f.length : Nat) : Int) ≤ e → i + f.length ≤ 810 → (∀ j, j < f.length → gi G 108 (1620 * r + 2 * (i + j)) = (f.getD j (0, 0)).1 ∧ gi G 108 (1620 * r + 2 * (i + j) + 1) = (f.getD j (0, 0)).2) → ∃ G', f_Model_comesTo_L6 (n + f.length) G r e st.length i = f_Model_comesTo_L6 n G' r e (evF A f st).length ((i + f.length : Nat) : Int) ∧ Cs G' 118 (evF A f st) ∧ Pf G G' ∧ TV ty' (evF A f st) := by
  intro f
  induction f with
  | nil =>
    intro n G ty ty' st i _ ht hv _ hs _ _ _
    have : ty = ty' := Option.some.inj ht
    subst this
    exact ⟨G, rfl, hs, Pf.rf G, hv⟩
  | cons q f ih =>
    intro n G ty ty' st i hok ht hv hA hs hi hi2 hst
    rw [List.length_cons] at hi hi2
    rw [typF_c] at ht
    cases h : typI q ty with
    | none => rw [h] at ht; cases ht
    | some t =>
      rw [h, Option.bind_some] at ht
      have hq := hok q List.mem_cons_self
      have h0 := hst 0 (by rw [List.length_cons]; omega)
      obtain ⟨G1, r1, r2, r3⟩ := step_M hAw hr (e := e) (i := i) (by omega) (by omega) hq h hv hA hs rfl rfl h0.1 h0.2 (n + f.length)
      have hv1 := ev_typ hAw hq h hv
      obtain ⟨G2, s1, s2, s3, s4⟩ := ih n G1 t ty' (evI A q st) (i + 1) (fun x hx => hok x (List.mem_cons_of_mem _ hx)) ht hv1 (AskM_fr r3 hA) r2 (by omega) (by omega) (fun j hj => by
        have := hst (j + 1) (by rw [List.length_cons]; omega)
        rw [show i + 1 + j = i + (j + 1) by omega, r3.1 108 _ (by decide), r3.1 108 _ (by decide)]
        exact this)
      refine ⟨G2, ?_, s2, r3.trans s3, s4⟩
      rw [List.length_cons, ← Nat.add_assoc, r1, s1, show i + 1 + f.length = i + (f.length + 1) by omega]
      rfl
/-- a formula's worth, as the reference works it out -/

theorem comes_M {A : Nat → Int} (hAw : ∀ k, wr (A k) = A k) {r : Nat} (hr : r < 4) {G : GS} {f : Fm} {b : Bool} {i : Nat} {e : Int} (hok : okV f) (ht : typF f [] = some [b]) (hA : AskM G A) (he : e = ((i + f.length : Nat) : Int)) (hi2 : i + f.length ≤ 810) (hst : ∀ j, j < f.length → gi G 108 (1620 * r + 2 * (i + j)) = (f.getD j (0, 0)).1 ∧ gi G 108 (1620 * r + 2 * (i + j) + 1) = (f.getD j (0, 0)).2) : ∃ G', f_Model_comesTo G r i e = some (evH A f, G') ∧ Pf G G' ∧ (b = true → evH A f = 0 ∨ evH A f = 1) := by
  obtain ⟨G1, r1, r2, r3, r4⟩ := runF_M hAw hr (e := e) f (39190 - f.length + 810) G [] [b] [] i hok ht trivial hA trivial (by omega) hi2 hst
  obtain ⟨v, hv, -, hb⟩ := TV_f1 r4
  have hH : evH A f = v := by unfold evH; rw [hv]; rfl
  rw [hH]
  refine ⟨G1, ?_, r3, hb⟩
  rw [hv] at r1 r2
  unfold f_Model_comesTo
  have e1 : FU = 39190 - f.length + 810 + f.length := by unfold FU; omega
  rw [e1, show (0 : Int) = (([] : List Int).length : Int) from rfl, r1, show 39190 - f.length + 810 = (39190 - f.length + 809) + 1 by omega]
  have h0 : gi G1 118 0 = v := r2.1
  rw [f_Model_comesTo_L6, if_pos (show e ≤ ((i + f.length : Nat) : Int) by omega), h0]
