/-! the rest of the invariant: tape, memories, juries, laws -/
def wsL : List Int := [0, 6, 12, 18, 26, 30, 36, 42, 49, 58, 62, 69, 76, 86, 91, 96, 100, 105, 111, 116, 125, 132, 135, 141, 146, 149, 152, 157, 160, 164, 168, 175, 181, 186, 192, 195, 199]
def InvT (G : GS) : Prop := 0 ≤ gi G 15 1 ∧ gi G 15 1 ≤ 800 ∧ (∀ k : Nat, -128 ≤ gi G 16 k ∧ gi G 16 k ≤ 127 ∧ gi G 117 k = if gi G 16 k < 0 then gi G 16 k + 256 else gi G 16 k) ∧ ∀ i : Nat, i < 37 → gi G 17 i = wsL.getD i 0
def MOKe (G : GS) (at0 : Nat) : Prop := 0 ≤ gi G 26 at0 ∧ gi G 26 at0 ≤ 15 ∧ gi G 133 at0 = gi G 26 at0 ∧ gi G 24 (gi G 26 at0).toNat ≠ -1 ∧ 0 ≤ gi G 132 at0 ∧ gi G 132 at0 ≤ 99999 ∧ 0 ≤ gi G 134 at0 ∧ gi G 134 at0 ≤ 99999 ∧
  ((gi G 131 at0 = 21 ∧ gi G 27 at0 = -30000 ∧ gi G 28 at0 = -1) ∨ (gi G 131 at0 = 22 ∧ gi G 27 at0 = 1 ∧ gi G 28 at0 = 30000) ∨ (gi G 131 at0 = 23 ∧ gi G 27 at0 = - gi G 132 at0 ∧ gi G 28 at0 = - gi G 132 at0) ∨ (gi G 131 at0 = 26 ∧ gi G 27 at0 = gi G 132 at0 ∧ gi G 28 at0 = gi G 132 at0) ∨ (gi G 131 at0 = 24 ∧ gi G 27 at0 = - gi G 132 at0 * 360 - gi G 134 at0 ∧ gi G 28 at0 = - gi G 132 at0 * 360 + gi G 134 at0))
def InvM (G : GS) : Prop := (∀ e : Nat, gi G 24 e = -1 ∨ (0 ≤ gi G 24 e ∧ gi G 24 e ≤ 29999)) ∧ ∀ p m : Nat, (p : Int) < gi G 1 7 → (m : Int) < gi G 25 p → MOKe G (24 * p + m)
-- juries
def pop10 (d : Nat) : Nat := ((List.range 10).filter (fun j => d.testBit j)).length
/-- what LAND l is held of by the words w of juries that are not in d: the last that says; -2 nobody says -/
def heldW (w : Nat → Int) (d l : Nat) : Int := (List.range 10).foldl (fun h j => if d.testBit j = true ∨ w (12 * j + l) = -2 then h else w (12 * j + l)) (-2)
/-- no two of the rest say unlike things of a LAND -/
def alikeW (w : Nat → Int) (d : Nat) : Prop := ∀ j, j < 10 → ∀ k, k < 10 → ∀ l, l < 12 → d.testBit j = false → d.testBit k = false → w (12 * j + l) ≠ -2 → w (12 * k + l) ≠ -2 → w (12 * j + l) = w (12 * k + l)
/-- n steps up from what l is held of -/
def upW (h : Nat → Int) : Nat → Int → Int
  | 0, m => m
  | n + 1, m => if m < 0 then m else upW h n (h m.toNat)
def ringW (w : Nat → Int) (d : Nat) : Prop := ∃ l, l < 12 ∧ 0 ≤ upW (heldW w d) 12 (l : Int)
def peaceW (w : Nat → Int) (d : Nat) : Prop := alikeW w d ∧ ¬ ringW w d
noncomputable def fewW (w : Nat → Int) : Nat := by
  classical exact (List.range 1023).foldl (fun b d => if pop10 d < pop10 b ∧ peaceW w d then d else b) 1023
def wOf (G : GS) : Nat → Int := fun k => gi G 46 k
def InvJ (G : GS) : Prop := (∀ j l : Nat, j < 10 → l < 12 → gi G 46 (12 * j + l) = -2 ∨ ((l : Int) < gi G 9 5 ∧ gi G 46 (12 * j + l) ≠ l ∧ -1 ≤ gi G 46 (12 * j + l) ∧ gi G 46 (12 * j + l) < gi G 9 5)) ∧ (gi G 45 4 = 0 ∨ gi G 45 4 = 1) ∧ (gi G 81 85 = 0 ∨ gi G 81 85 = 1) ∧ (gi G 45 4 = 1 → gi G 45 3 = fewW (wOf G) ∧ ∀ l : Nat, l < 12 → gi G 48 l = if heldW (wOf G) (fewW (wOf G)) l = -2 then -1 else heldW (wOf G) (fewW (wOf G)) l) ∧ (gi G 81 85 = 1 → gi G 81 86 = fewW (wOf G))
-- laws: a line is (kind, its E, its B), a formula a list of the model's steps
abbrev Fm : Type := List (Int × Int)
def clsI (q : Int × Int) : List Int := if q.1 = 0 then [q.2] else if q.1 < 8 then [-(q.1 + 99)] else if q.1 = 8 then [-43] else if q.1 = 9 then [-45] else if q.1 = 10 then [-42] else if q.1 = 11 then [q.2, -47] else if q.1 = 12 then [-60] else if q.1 = 13 then [-61] else if q.1 = 14 then [-62] else if q.1 = 15 then [-129] else if q.1 = 16 then [-128] else [-127]
def clsF (f : Fm) : List Int := f.flatMap clsI
def clsL' (l : Int × Fm × Fm) : List Int := if l.1 = 8 then clsF l.2.1 ++ (if l.2.2 = [] then [-120] else clsF l.2.2 ++ [-126]) else if l.1 = 9 then clsF l.2.2 ++ [-114] else []
def codeL (ls : List (Int × Fm × Fm)) : List Int := ls.flatMap clsL'
def stepL (ls : List (Int × Fm × Fm)) : Fm := ls.flatMap (fun l => l.2.1 ++ l.2.2)
def offL (ls : List (Int × Fm × Fm)) (k : Nat) : Nat := (stepL (ls.take k)).length
/-- a formula's types: false a number, true a condition -/
def typI (q : Int × Int) (st : List Bool) : Option (List Bool) :=
  if 60 < st.length then none else if q.1 < 0 then none else if q.1 < 8 then some (false :: st) else
  match st with
  | false :: false :: t => if q.1 ≤ 10 then some (false :: t) else if q.1 = 11 ∧ 1 ≤ q.2 ∧ q.2 ≤ 99999 then some (false :: false :: t) else if 12 ≤ q.1 ∧ q.1 ≤ 14 then some (true :: t) else none
  | false :: t => if q.1 = 11 ∧ 1 ≤ q.2 ∧ q.2 ≤ 99999 then some (false :: t) else none
  | true :: true :: t => if q.1 = 15 then some (true :: true :: t) else if q.1 = 16 ∨ q.1 = 17 then some (true :: t) else none
  | true :: t => if q.1 = 15 then some (true :: t) else none
  | [] => none
def typF (f : Fm) (st : List Bool) : Option (List Bool) := f.foldl (fun a q => a.bind (typI q)) (some st)
def okL (l : Int × Fm × Fm) : Prop := (3 ≤ l.1 ∧ l.1 ≤ 9) ∧ (l.1 = 8 → typF l.2.1 [] = some [false] ∧ (l.2.2 = [] ∨ typF l.2.2 [] = some [true])) ∧ (l.1 = 9 → l.2.1 = [] ∧ typF l.2.2 [] = some [true]) ∧ (l.1 < 8 → l.2.1 = [] ∧ l.2.2 = []) ∧ (∀ q ∈ l.2.1 ++ l.2.2, q.1 = 0 → 0 ≤ q.2 ∧ q.2 ≤ 99999)
def CodeRel (G : GS) (r c : Nat) : Prop := ∃ ls : List (Int × Fm × Fm), ls.length ≤ 30 ∧ (codeL ls).length ≤ 800 ∧ (stepL ls).length ≤ 810 ∧ (∀ l ∈ ls, okL l) ∧ gi G c 9 = (codeL ls).length ∧ (∀ i : Nat, i < (codeL ls).length → gi G (c + 5) i = (codeL ls).getD i 0) ∧ gi G 104 r = ls.length ∧ (∀ k : Nat, k < ls.length → gi G 105 (30 * r + k) = (ls.getD k (0, [], [])).1 ∧ gi G 107 (30 * r + k) = offL ls k + (ls.getD k (0, [], [])).2.1.length) ∧ (∀ k : Nat, k ≤ ls.length → gi G 106 (31 * r + k) = offL ls k) ∧ ∀ i : Nat, i < (stepL ls).length → gi G 108 (1620 * r + 2 * i) = ((stepL ls).getD i (0, 0)).1 ∧ gi G 108 (1620 * r + 2 * i + 1) = ((stepL ls).getD i (0, 0)).2
def LawRel (G : GS) (r c : Nat) : Prop := (gi G 96 r = gi G c 4 ∧ gi G 97 r = gi G c 5 ∧ gi G 98 r = gi G c 6 ∧ gi G 99 r = gi G c 7) ∧ (0 ≤ gi G c 4 ∧ gi G c 4 ≤ gi G c 5 ∧ 1 ≤ gi G c 5 ∧ gi G c 5 ≤ 99999 ∧ 0 ≤ gi G c 6 ∧ gi G c 6 ≤ 9999 ∧ 0 ≤ gi G c 7 ∧ gi G c 7 ≤ 9999) ∧ (∀ s : Nat, s < 4 → gi G 100 (4 * r + s) = gi G (c + 1) s ∧ 0 ≤ gi G (c + 1) s ∧ gi G (c + 1) s ≤ 2) ∧ (∀ v : Nat, v < 3 → gi G 101 (3 * r + v) = gi G (c + 2) v ∧ 0 ≤ gi G (c + 2) v ∧ gi G (c + 2) v ≤ 40 ∧ gi G 102 (3 * r + v) = gi G (c + 3) v ∧ 0 ≤ gi G (c + 3) v ∧ gi G (c + 3) v ≤ 40 ∧ gi G 103 (3 * r + v) = gi G (c + 4) v ∧ 0 ≤ gi G (c + 4) v ∧ gi G (c + 4) v ≤ 2) ∧ CodeRel G r c
def InvK (G : GS) : Prop := (∀ r, r < 4 → lawC (gp G 49 r) = true) ∧ lawC (gp G 0 13) = true ∧ (∀ r s, r < 4 → s < 4 → gp G 49 r = gp G 49 s → r = s) ∧ (∀ r, r < 4 → gp G 49 r ≠ gp G 0 13) ∧ ∀ r, r < 4 → LawRel G r (gp G 49 r)
def Inv (G : GS) : Prop := InvE G ∧ InvP G ∧ InvL G ∧ InvR G ∧ InvS G ∧ InvT G ∧ InvM G ∧ InvJ G ∧ InvK G
theorem law_rng {c : Nat} (h : lawC c = true) : 50 ≤ c ∧ c ≤ 75 ∧ c ≠ 74 ∧ c ≠ 73 ∧ c ≠ 72 ∧ c ≠ 71 ∧ c ≠ 70 ∧ c ≠ 69 := by
  unfold lawC at h
  simp only [Bool.or_eq_true, beq_iff_eq] at h
  omega
/-- the laws stay where their cells stay -/
theorem InvK_fr {G G' : GS} (hp : ∀ c k, gp G' c k = gp G c k) (hi : ∀ c k, (50 ≤ c ∧ c ≤ 80 ∧ c ≠ 74) ∨ (96 ≤ c ∧ c ≤ 108) → gi G' c k = gi G c k) (h : InvK G) : InvK G' := by
  obtain ⟨h1, h2, h3, h4, h5⟩ := h
  refine ⟨fun r hr => by rw [hp]; exact h1 r hr, by rw [hp]; exact h2, fun r s hr hs e => h3 r s hr hs (by rw [hp, hp] at e; exact e), fun r hr => by rw [hp, hp]; exact h4 r hr, fun r hr => ?_⟩
  rw [hp]
  obtain ⟨g1, g2, g3, -⟩ := law_rng (h1 r hr)
  have hc : ∀ j k, j ≤ 5 → gi G' (gp G 49 r + j) k = gi G (gp G 49 r + j) k := fun j k hj => hi _ _ (Or.inl (by have := law_rng (h1 r hr); omega))
  have hc0 : ∀ k, gi G' (gp G 49 r) k = gi G (gp G 49 r) k := fun k => hc 0 k (by omega)
  have hm : ∀ c k, 96 ≤ c → c ≤ 108 → gi G' c k = gi G c k := fun c k q1 q2 => hi c k (Or.inr ⟨q1, q2⟩)
  have h6 := h5 r hr
  unfold LawRel CodeRel at h6 ⊢
  simp only [hc0, hc 1 _ (by decide), hc 2 _ (by decide), hc 3 _ (by decide), hc 4 _ (by decide), hc 5 _ (by decide), hm 96 _ (by decide) (by decide), hm 97 _ (by decide) (by decide), hm 98 _ (by decide) (by decide), hm 99 _ (by decide) (by decide), hm 100 _ (by decide) (by decide), hm 101 _ (by decide) (by decide), hm 102 _ (by decide) (by decide), hm 103 _ (by decide) (by decide), hm 104 _ (by decide) (by decide), hm 105 _ (by decide) (by decide), hm 106 _ (by decide) (by decide), hm 107 _ (by decide) (by decide), hm 108 _ (by decide) (by decide)]
  exact h6
/-- juries' words and caches stay where their cells stay and LANDS don't get fewer -/
theorem InvJ_fr {G G' : GS} (hn : gi G 9 5 ≤ gi G' 9 5) (h46 : ∀ k, gi G' 46 k = gi G 46 k) (h1 : gi G' 45 4 = gi G 45 4) (h2 : gi G' 45 3 = gi G 45 3) (h3 : ∀ k, gi G' 48 k = gi G 48 k) (h4 : gi G' 81 85 = gi G 81 85 ∨ gi G' 81 85 = 0) (h5 : gi G' 81 86 = gi G 81 86) (h : InvJ G) : InvJ G' := by
  have hw : wOf G' = wOf G := funext h46
  obtain ⟨g1, g2, g3, g4, g5⟩ := h
  refine ⟨fun j l hj hl => ?_, by rw [h1]; exact g2, ?_, fun q => ?_, fun q => ?_⟩
  · rw [h46]; have := g1 j l hj hl; omega
  · omega
  · rw [hw, h2]; simp only [h3]; exact g4 (by omega)
  · rw [hw, h5]; exact g5 (by omega)
theorem InvM_fr {G G' : GS} (hn : gi G' 1 7 = gi G 1 7) (hc : ∀ k, gi G' 25 k = gi G 25 k) (hi : ∀ c k, (24 ≤ c ∧ c ≤ 28) ∨ (131 ≤ c ∧ c ≤ 134) → gi G' c k = gi G c k) (h : InvM G) : InvM G' := by
  obtain ⟨h1, h2⟩ := h
  refine ⟨fun e => by rw [hi 24 e (by omega)]; exact h1 e, fun p m hp hm => ?_⟩
  have := h2 p m (by omega) (by rw [← hc]; exact hm)
  unfold MOKe at this ⊢
  simp only [hi 24 _ (by omega), hi 26 _ (by omega), hi 27 _ (by omega), hi 28 _ (by omega), hi 131 _ (by omega), hi 132 _ (by omega), hi 133 _ (by omega), hi 134 _ (by omega)]
  exact this
theorem InvT_fr {G G' : GS} (h1 : gi G' 15 1 = gi G 15 1) (hi : ∀ c k, c = 16 ∨ c = 17 ∨ c = 117 → gi G' c k = gi G c k) (h : InvT G) : InvT G' := by
  unfold InvT at h ⊢
  simp only [h1, hi 16 _ (by omega), hi 17 _ (by omega), hi 117 _ (by omega)]
  exact h
