/-! the law's tokens, both sides; lists in cells -/
def kAll : List Int := [0, 1, 2] ++ (List.range 23).map (fun j : Nat => 40 + (j : Int)) ++ (List.range 36).map (fun j : Nat => 100 + (j : Int))
theorem kC_all (B : Nat → Int) (L q : Nat) : kC B L q ∈ kAll := by
  unfold kAll
  rw [List.mem_append, List.mem_append, List.mem_map, List.mem_map]
  rcases kC_k B L q with (h | h | h) | h | ⟨w, hw, h⟩
  · rw [h]; exact Or.inl (Or.inl (by decide))
  · rw [h]; exact Or.inl (Or.inl (by decide))
  · rw [h]; exact Or.inl (Or.inl (by decide))
  · exact Or.inl (Or.inr ⟨(kC B L q - 40).toNat, List.mem_range.mpr (show (kC B L q - 40).toNat < 23 by omega), show 40 + (((kC B L q - 40).toNat : Nat) : Int) = kC B L q by omega⟩)
  · exact Or.inr ⟨w, List.mem_range.mpr hw, h.symm⟩
theorem mLp (P : Int → Int → Bool) (h : (kAll.all fun K => P K (toL K)) = true) (B : Nat → Int) (L q : Nat) : P (kC B L q) (mC 1 B L q) = true := by
  rw [mC_law (by decide)]
  exact List.all_eq_true.mp h _ (kC_all B L q)
theorem mLi {a b : Int} (h : (kAll.all fun K => decide (toL K = b ↔ K = a)) = true) (B : Nat → Int) (L q : Nat) : mC 1 B L q = b ↔ kC B L q = a := of_decide_eq_true (mLp (fun K m => decide (m = b ↔ K = a)) h B L q)
def Ar (G : GS) (c : Nat) (l : List Int) : Prop := ∀ j, j < l.length → gi G c j = l.getD j 0
theorem getD_push {α : Type} {l : List α} {v d : α} {j : Nat} (hj : j < (l ++ [v]).length) : (l ++ [v]).getD j d = if j = l.length then v else l.getD j d := by
  rw [List.length_append] at hj
  rw [List.getD_eq_getElem?_getD, List.getD_eq_getElem?_getD]
  by_cases c : j = l.length
  · rw [if_pos c, c, List.getElem?_append_right (Nat.le_refl _), Nat.sub_self]; rfl
  · rw [if_neg c, List.getElem?_append_left (by simp only [List.length_singleton] at hj; omega)]
theorem Ar_push {G : GS} {c n : Nat} {l : List Int} {v : Int} (hn : n = l.length) (hv : wr v = v) (h : Ar G c l) : Ar (si G c n v) c (l ++ [v]) := by
  intro j hj
  rw [getD_push hj, gi_sm, hn]
  by_cases z : j = l.length
  · rw [if_pos z, if_pos z, hv]
  · rw [List.length_append] at hj
    rw [if_neg z, if_neg z]
    exact h j (by simp only [List.length_singleton] at hj; omega)
theorem Ar_fr {G G' : GS} {c : Nat} {l : List Int} (hi : ∀ j, j < l.length → gi G' c j = gi G c j) (h : Ar G c l) : Ar G' c l := fun j hj => by rw [hi j hj]; exact h j hj
/-! the class's waiting operators -/
def rk (a : Int) : Int := if a = 42 then 6 else if a = 43 then 5 else if a = 45 then 5 else if a = 47 then 6 else if a = 60 then 4 else if a = 61 then 4 else if a = 62 then 4 else if a = 127 then 1 else if a = 128 then 2 else if a = 129 then 3 else 0
theorem rank_eq (G : GS) (a : Int) : f_LawReader_rank G a = some (rk a) := by
  unfold f_LawReader_rank rk
  repeat' split
  all_goals rfl
def lowS (r : Int) : List Int → Prop
  | [] => True
  | a :: _ => rk a < r
def flush (t : List Int) : List Int := t.map (fun a => -a)
theorem flush_app (s t : List Int) : flush (s ++ t) = flush s ++ flush t := List.map_append
theorem flush_len (s : List Int) : (flush s).length = s.length := List.length_map _
theorem put_L {G : GS} {c n : Nat} {v : Int} (h9 : gi G c 9 = n) (hn : n < 800) : f_Law_put G c v = some (si (si G (c + 5) n v) c 9 ((n : Int) + 1)) := by
  have e : gi (si G (c + 5) n v) c 9 = n := by rw [gi_si, if_neg (by omega)]; exact h9
  rw [f_Law_put, h9, if_neg (by omega), gd, if_pos (by omega)]
  simp only [wG, Int.toNat_natCast, e]
/-- code is settled: only the count of what waits and the law's code change -/
def FS (G G' : GS) (c : Nat) : Prop := (∀ x k, ¬ (x = 21 ∧ k = 3) → ¬ (x = c ∧ k = 9) → x ≠ c + 5 → gi G' x k = gi G x k) ∧ ∀ x k, gp G' x k = gp G x k
theorem settle_go {c : Nat} (hc : lawC c = true) {r : Int} : ∀ (t s cd : List Int) (G : GS) (n : Nat), gp G 21 1 = c → Cs G 22 (t ++ s) → (t ++ s).length ≤ 64 → gi G 21 3 = ((t ++ s).length : Nat) → (∀ a ∈ t, (0 ≤ a ∧ a ≤ 200) ∧ r ≤ rk a) → lowS r s → gi G c 9 = (cd.length : Nat) → Ar G (c + 5) cd → cd.length + t.length ≤ 800 → t.length < n → ∃ G', f_LawReader_settle_L7 n G r (((t ++ s).length : Int) - 1) = some G' ∧ FS G G' c ∧ Cs G' 22 s ∧ gi G' 21 3 = (s.length : Nat) ∧ gi G' c 9 = ((cd ++ flush t).length : Nat) ∧ Ar G' (c + 5) (cd ++ flush t) := by
  have hr := law_rng hc
  intro t
  induction t with
  | nil =>
    intro s cd G n h1 h2 h3 h4 h5 h6 h7 h8 h9 h10
    obtain ⟨n', rfl⟩ : ∃ n', n = n' + 1 := ⟨n - 1, by simp only [List.length_nil] at h10; omega⟩
    rw [List.nil_append] at *
    refine ⟨G, ?_, ⟨fun _ _ _ _ _ => rfl, fun _ _ => rfl⟩, h2, h4, by rw [show flush [] = [] from rfl, List.append_nil]; exact h7, by rw [show flush [] = [] from rfl, List.append_nil]; exact h8⟩
    cases s with
    | nil => rw [f_LawReader_settle_L7, if_pos (by simp)]
    | cons a s =>
      have ha : gi G 22 s.length = a := h2.1
      have hw : (((a :: s).length : Nat) : Int) - 1 = (s.length : Int) := by rw [List.length_cons]; omega
      rw [List.length_cons] at h3
      rw [f_LawReader_settle_L7, hw, if_neg (by omega), gd, if_pos (by omega), Int.toNat_natCast, ha, rank_eq, Option.bind_some, if_pos (show rk a < r from h6)]
  | cons a t ih =>
    intro s cd G n h1 h2 h3 h4 h5 h6 h7 h8 h9 h10
    rw [List.length_cons] at h9 h10
    obtain ⟨n', rfl⟩ : ∃ n', n = n' + 1 := ⟨n - 1, by omega⟩
    rw [List.cons_append] at *
    have ha : gi G 22 (t ++ s).length = a := h2.1
    have hw : (((a :: (t ++ s)).length : Nat) : Int) - 1 = ((t ++ s).length : Int) := by rw [List.length_cons]; omega
    have hb := h5 a (List.mem_cons_self ..)
    rw [List.length_cons] at h3
    have hwa : wr (-a) = -a := wr_of (by omega) (by omega)
    have e0 : f_LawReader_settle_L7 (n' + 1) G r ((t ++ s).length : Int) = f_LawReader_settle_L7 n' (si (si (si G (c + 5) cd.length (-a)) c 9 ((cd.length : Int) + 1)) 21 3 ((t ++ s).length : Int)) r (wr (((t ++ s).length : Int) + (-1))) := by
      rw [f_LawReader_settle_L7, if_neg (by omega), gd, if_pos (by omega), Int.toNat_natCast, ha, rank_eq, Option.bind_some, if_neg (show ¬ rk a < r by omega), gd, if_pos (by rw [h1]; exact hc), gd, if_pos (by omega), h1, hwa, put_L h7 (by omega), Option.bind_some]
      rfl
    rw [hw, e0]
    have hg : ∀ x k, ¬ (x = 21 ∧ k = 3) → ¬ (x = c ∧ k = 9) → x ≠ c + 5 → gi (si (si (si G (c + 5) cd.length (-a)) c 9 ((cd.length : Int) + 1)) 21 3 ((t ++ s).length : Int)) x k = gi G x k := fun x k a1 a2 a3 => by rw [gi_si, if_neg a1, gi_si, if_neg a2, gi_ne a3]
    have hp : ∀ x k, gp (si (si (si G (c + 5) cd.length (-a)) c 9 ((cd.length : Int) + 1)) 21 3 ((t ++ s).length : Int)) x k = gp G x k := fun _ _ => rfl
    have v3 : gi (si (si (si G (c + 5) cd.length (-a)) c 9 ((cd.length : Int) + 1)) 21 3 ((t ++ s).length : Int)) 21 3 = ((t ++ s).length : Nat) := by rw [gi_sm, if_pos rfl]; exact wr_of (by omega) (by omega)
    have v9 : gi (si (si (si G (c + 5) cd.length (-a)) c 9 ((cd.length : Int) + 1)) 21 3 ((t ++ s).length : Int)) c 9 = ((cd ++ [-a]).length : Nat) := by
      rw [gi_ne (by omega), gi_sm, if_pos rfl, List.length_append, wr_of (by omega) (by omega)]
      simp
    have vA : Ar (si (si (si G (c + 5) cd.length (-a)) c 9 ((cd.length : Int) + 1)) 21 3 ((t ++ s).length : Int)) (c + 5) (cd ++ [-a]) := Ar_fr (fun j hj => by rw [gi_ne (by omega), gi_ne (by omega)]) (Ar_push rfl hwa h8)
    generalize si (si (si G (c + 5) cd.length (-a)) c 9 ((cd.length : Int) + 1)) 21 3 ((t ++ s).length : Int) = G1 at *
    have hw2 : wr (((t ++ s).length : Int) + (-1)) = ((t ++ s).length : Int) - 1 := wr_of (by omega) (by omega)
    rw [hw2]
    obtain ⟨G', r1, r2, r3, r4, r5, r6⟩ := ih s (cd ++ [-a]) G1 n' (by rw [hp]; exact h1) (Cs_fr _ (fun i hi => hg 22 i (by omega) (by omega) (by omega)) h2.2) (by omega) v3 (fun b hb => h5 b (List.mem_cons_of_mem _ hb)) h6 v9 vA (by rw [List.length_append]; simp; omega) (by omega)
    have e1 : cd ++ flush (a :: t) = cd ++ [-a] ++ flush t := by rw [List.append_assoc]; rfl
    rw [e1]
    exact ⟨G', r1, ⟨fun x k a1 a2 a3 => by rw [r2.1 x k a1 a2 a3, hg x k a1 a2 a3], fun x k => by rw [r2.2, hp]⟩, r3, r4, r5, r6⟩
/-- what waits, and the code so far -/
def SB (G : GS) (c : Nat) (s cd : List Int) : Prop := gp G 21 1 = c ∧ gi G 21 3 = (s.length : Nat) ∧ Cs G 22 s ∧ (∀ a ∈ s, 40 ≤ a ∧ a ≤ 129) ∧ gi G c 9 = (cd.length : Nat) ∧ Ar G (c + 5) cd ∧ cd.length + s.length ≤ 800 ∧ s.length ≤ 60
theorem settle_C {G : GS} {c : Nat} (hc : lawC c = true) {r : Int} {t s cd : List Int} (h : SB G c (t ++ s) cd) (ht : ∀ a ∈ t, r ≤ rk a) (hs : lowS r s) : ∃ G', f_LawReader_settle G r = some G' ∧ FS G G' c ∧ SB G' c s (cd ++ flush t) := by
  obtain ⟨h1, h2, h3, h4, h5, h6, h7, h8⟩ := h
  have hl : (t ++ s).length = t.length + s.length := List.length_append
  obtain ⟨G', r1, r2, r3, r4, r5, r6⟩ := settle_go hc (r := r) t s cd G FU h1 h3 (by omega) h2 (fun a ha => ⟨by have := h4 a (List.mem_append_left _ ha); omega, ht a ha⟩) hs h5 h6 (by omega) (by unfold FU; omega)
  refine ⟨G', ?_, r2, by rw [r2.2]; exact h1, r4, r3, fun a ha => h4 a (List.mem_append_right _ ha), r5, r6, by rw [List.length_append, flush_len]; omega, by omega⟩
  rw [f_LawReader_settle, h2, wr_of (by omega) (by omega)]
  exact r1
theorem split_S (r : Int) : ∀ s : List Int, ∃ t u, s = t ++ u ∧ (∀ a ∈ t, r ≤ rk a) ∧ lowS r u
  | [] => ⟨[], [], rfl, fun _ h => (by cases h), trivial⟩
  | a :: s => by
    by_cases c : rk a < r
    · exact ⟨[], a :: s, rfl, fun _ h => (by cases h), c⟩
    · obtain ⟨t, u, h1, h2, h3⟩ := split_S r s
      refine ⟨a :: t, u, by rw [h1]; rfl, fun b hb => ?_, h3⟩
      rcases List.mem_cons.mp hb with z | z
      · rw [z]; omega
      · exact h2 b z
