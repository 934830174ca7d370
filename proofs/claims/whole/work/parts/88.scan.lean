/-! the tokens, one behind the other -/
def tks (B : Nat → Int) (L : Nat) : Nat → Nat → List (Int × Int × Int)
  | 0, _ => [(0, 0, (L : Int))]
  | m + 1, p => if p < L then (if B p = 32 ∨ B p = 10 then tks B L m (p + 1) else (tK B L p, tV B L p, (p : Int)) :: tks B L m (tE B L p)) else [(0, 0, (L : Int))]
theorem tks_eq (B : Nat → Int) (L : Nat) : ∀ (m m' p : Nat), L - p ≤ m → L - p ≤ m' → tks B L m p = tks B L m' p := by
  intro m
  induction m with
  | zero =>
    intro m' p h1 h2
    cases m' with
    | zero => rfl
    | succ m' => rw [tks, tks, if_neg (by omega)]
  | succ m ih =>
    intro m' p h1 h2
    cases m' with
    | zero => rw [tks, tks, if_neg (by omega)]
    | succ m' =>
      rw [tks, tks]
      by_cases c : p < L
      · have hb := tE_b (B := B) c
        rw [if_pos c, if_pos c, ih m' (p + 1) (by omega) (by omega), ih m' (tE B L p) (by omega) (by omega)]
      · rw [if_neg c, if_neg c]
theorem tks_len (B : Nat → Int) (L : Nat) : ∀ (m p : Nat), (tks B L m p).length ≤ (L - p) + 1 ∧ 1 ≤ (tks B L m p).length := by
  intro m
  induction m with
  | zero => intro p; rw [tks, List.length_singleton]; omega
  | succ m ih =>
    intro p
    rw [tks]
    by_cases c : p < L
    · have hb := tE_b (B := B) c
      rw [if_pos c]
      split
      · have := ih (p + 1); omega
      · have := ih (tE B L p)
        rw [List.length_cons]; omega
    · rw [if_neg c, List.length_singleton]; omega
theorem wkF_b (B : Nat → Int) (p e : Nat) : ∀ m w, w + m = 36 → 1 ≤ wkF B p e m w ∧ wkF B p e m w ≤ 135 := by
  intro m
  induction m with
  | zero => intro w _; rw [wkF]; decide
  | succ m ih =>
    intro w h
    rw [wkF]
    split
    · omega
    · exact ih (w + 1) (by omega)
theorem tK_wr {B : Nat → Int} (hB : ∀ k, wr (B k) = B k) (L p : Nat) : wr (tK B L p) = tK B L p := by
  unfold tK
  split
  · have := wkF_b B p (tE B L p) 36 0 rfl
    exact wr_of (by omega) (by omega)
  · split
    · split
      · rfl
      · rfl
    · split
      · exact hB p
      · rfl
theorem nV_wr (B : Nat → Int) : ∀ m p (v : Int), wr v = v → wr (nV B m p v) = nV B m p v := by
  intro m
  induction m with
  | zero => intro p v h; exact h
  | succ m ih => intro p v h; exact ih _ _ (wr_wr _)
theorem tV_wr (B : Nat → Int) (L p : Nat) : wr (tV B L p) = tV B L p := by
  unfold tV
  split
  · split
    · exact wr_zero
    · exact nV_wr B _ _ _ wr_zero
  · exact wr_zero
def Put (G G' : GS) (c : Nat) (lst : List (Int × Int × Int)) : Prop := gi G' 15 6 = ((c + lst.length : Nat) : Int) ∧ (∀ j, j < lst.length → gi G' 18 (c + j) = (lst.getD j (0, 0, 0)).1 ∧ gi G' 19 (c + j) = (lst.getD j (0, 0, 0)).2.1 ∧ gi G' 20 (c + j) = (lst.getD j (0, 0, 0)).2.2) ∧ (∀ j, j < c → gi G' 18 j = gi G 18 j ∧ gi G' 19 j = gi G 19 j ∧ gi G' 20 j = gi G 20 j) ∧ (∀ x k, ¬ (18 ≤ x ∧ x ≤ 20) → ¬ (x = 15 ∧ (k = 1 ∨ k = 6)) → gi G' x k = gi G x k) ∧ (∀ x k, gp G' x k = gp G x k) ∧ gi G' 15 1 = 0
theorem add_C {G : GS} {c : Nat} {a b t : Int} (h : gi G 15 6 = c) (hc : c ≤ 800) (ha : wr a = a) (hb : wr b = b) (ht : wr t = t) : ∃ G', f_Text_addToken G a b t = some G' ∧ gi G' 15 6 = ((c + 1 : Nat) : Int) ∧ gi G' 18 c = a ∧ gi G' 19 c = b ∧ gi G' 20 c = t ∧ (∀ j, j < c → gi G' 18 j = gi G 18 j ∧ gi G' 19 j = gi G 19 j ∧ gi G' 20 j = gi G 20 j) ∧ (∀ x k, ¬ (18 ≤ x ∧ x ≤ 20) → ¬ (x = 15 ∧ k = 6) → gi G' x k = gi G x k) ∧ ∀ x k, gp G' x k = gp G x k := by
  have g : (0 : Int) ≤ (c : Int) ∧ (c : Int) < 801 := by omega
  have h1 : gi (si G 18 c a) 15 6 = c := by rw [gi_ne (by decide)]; exact h
  have h2 : gi (si (si G 18 c a) 19 c b) 15 6 = c := by rw [gi_ne (by decide)]; exact h1
  have h3 : gi (si (si (si G 18 c a) 19 c b) 20 c t) 15 6 = c := by rw [gi_ne (by decide)]; exact h2
  refine ⟨si (si (si (si G 18 c a) 19 c b) 20 c t) 15 6 ((c : Int) + 1), ?_, ?_, ?_, ?_, ?_, fun j hj => ⟨?_, ?_, ?_⟩, fun x k z1 z2 => ?_, fun _ _ => rfl⟩
  · simp only [f_Text_addToken, h, if_neg (show ¬ (801 : Int) ≤ (c : Int) by omega), gd, if_pos g, wG, Int.toNat_natCast, h1, h2, h3]
  · rw [gi_si, if_pos ⟨rfl, rfl⟩, wr_of (by omega) (by omega)]; omega
  · rw [gi_ne (by decide), gi_ne (by decide), gi_ne (by decide), gi_si, if_pos ⟨rfl, rfl⟩]; exact ha
  · rw [gi_ne (by decide), gi_ne (by decide), gi_si, if_pos ⟨rfl, rfl⟩]; exact hb
  · rw [gi_ne (by decide), gi_si, if_pos ⟨rfl, rfl⟩]; exact ht
  · rw [gi_ne (by decide), gi_ne (by decide), gi_ne (by decide), gi_si, if_neg (by omega)]
  · rw [gi_ne (by decide), gi_ne (by decide), gi_si, if_neg (by omega), gi_ne (by decide)]
  · rw [gi_ne (by decide), gi_si, if_neg (by omega), gi_ne (by decide), gi_ne (by decide)]
  · rw [gi_si, if_neg (by omega), gi_ne (by omega), gi_ne (by omega), gi_ne (by omega)]
theorem scan_skip {G : GS} {L : Nat} (h1 : gi G 15 1 = L) (h8 : L ≤ 800) : ∀ (k p e n : Nat), p + k = e → e ≤ L → f_Text_scan_L24 (n + k) G ((e : Int) - 1) p = f_Text_scan_L24 n G ((e : Int) - 1) e := by
  intro k
  induction k with
  | zero => intro p e n a1 a2; rw [show p = e by omega]; rfl
  | succ k ih =>
    intro p e n a1 a2
    have hw1 : wr ((p : Int) + 1) = ((p + 1 : Nat) : Int) := by rw [wr_of (by omega) (by omega)]; omega
    rw [← Nat.add_assoc, f_Text_scan_L24, h1, if_neg (by omega), if_pos (by omega), f_Text_scan_L82, hw1]
    exact ih (p + 1) e n (by omega) a2
theorem scan_L {L : Nat} (h8 : L ≤ 800) {B : Nat → Int} : ∀ (m p n c : Nat) (x : Int) (G : GS), L - p ≤ m → L - p < n → p ≤ L → x < p → gi G 15 1 = L → gi G 15 6 = c → c + (L - p) ≤ 800 → (∀ i : Nat, i < 37 → gi G 17 i = wsL.getD i 0) → TB G = B → ∃ G', f_Text_scan_L24 n G x p = some G' ∧ Put G G' c (tks B L m p) := by
  intro m
  induction m with
  | zero =>
    intro p n c x G a1 a2 a3 a4 h1 h6 hc hT hB
    obtain ⟨n', rfl⟩ : ∃ n', n = n' + 1 := ⟨n - 1, by omega⟩
    obtain ⟨G1, r1, r2, r3, r4, r5, r6, r7, r8⟩ := add_C (a := 0) (b := 0) (t := (L : Int)) h6 (by omega) wr_zero wr_zero (wr_of (by omega) (by omega))
    refine ⟨si G1 15 1 0, ?_, ?_, fun j hj => ?_, fun j hj => ?_, fun y k z1 z2 => ?_, r8, ?_⟩
    · rw [f_Text_scan_L24, h1, if_pos (by omega), r1]; rfl
    · rw [gi_si, if_neg (by omega), r2]; rfl
    · have : j = 0 := Nat.lt_one_iff.mp hj
      subst this
      rw [gi_ne (by decide), gi_ne (by decide), gi_ne (by decide)]
      exact ⟨r3, r4, r5⟩
    · rw [gi_ne (by decide), gi_ne (by decide), gi_ne (by decide)]
      exact r6 j hj
    · rw [gi_si, if_neg (by omega)]
      exact r7 y k z1 (by omega)
    · rw [gi_si, if_pos ⟨rfl, rfl⟩]; exact wr_zero
  | succ m ih =>
    intro p n c x G a1 a2 a3 a4 h1 h6 hc hT hB
    by_cases cp : p < L
    · obtain ⟨n', rfl⟩ : ∃ n', n = n' + 1 := ⟨n - 1, by omega⟩
      have hw1 : wr ((p : Int) + 1) = ((p + 1 : Nat) : Int) := by rw [wr_of (by omega) (by omega)]; omega
      have hBp : B p = gi G 16 p := by rw [← hB]; rfl
      rw [tks, if_pos cp, f_Text_scan_L24, h1, if_neg (by omega), if_neg (by omega), gd, if_pos (by omega), Int.toNat_natCast, hBp]
      by_cases s1 : gi G 16 p = 32
      · rw [if_pos s1, if_pos (Or.inl s1), f_Text_scan_L82, hw1]
        exact ih (p + 1) n' c x G (by omega) (by omega) (by omega) (by omega) h1 h6 (by omega) hT hB
      · by_cases s2 : gi G 16 p = 10
        · rw [if_neg s1, gd, if_pos (show (0 : Int) ≤ (p : Int) ∧ (p : Int) < 800 by omega), if_pos s2, if_pos (Or.inr s2), f_Text_scan_L82, hw1]
          exact ih (p + 1) n' c x G (by omega) (by omega) (by omega) (by omega) h1 h6 (by omega) hT hB
        · have hb := tE_b (B := B) cp
          have t1 := tog_C h1 h8 cp
          have t2 := kind_C hT h8 cp
          have t3 := num_C (G := G) h8 cp
          rw [hB] at t1 t2 t3
          have hBw : ∀ k, wr (B k) = B k := fun k => by rw [← hB]; exact wr_gi _ _ _
          obtain ⟨G1, r1, r2, r3, r4, r5, r6, r7, r8⟩ := add_C (a := tK B L p) (b := tV B L p) (t := (p : Int)) h6 (by omega) (tK_wr hBw L p) (tV_wr B L p) (wr_of (by omega) (by omega))
          rw [if_neg s1, gd, if_pos (show (0 : Int) ≤ (p : Int) ∧ (p : Int) < 800 by omega), if_neg s2, if_neg (fun z => by rcases z with z | z; exact s1 z; exact s2 z), t1, Option.bind_some, t2, Option.bind_some, t3, Option.bind_some, r1, Option.bind_some, f_Text_scan_L82, hw1]
          have h1' : gi G1 15 1 = L := by rw [r7 15 1 (by omega) (by omega)]; exact h1
          have sk := scan_skip h1' h8 (tE B L p - (p + 1)) (p + 1) (tE B L p) (n' - (tE B L p - (p + 1))) (by omega) hb.2
          rw [show n' - (tE B L p - (p + 1)) + (tE B L p - (p + 1)) = n' by omega] at sk
          rw [sk]
          have hB1 : TB G1 = B := by rw [← hB]; funext k; exact r7 16 k (by omega) (by omega)
          obtain ⟨G2, u1, u2, u3, u4, u5, u6, u7⟩ := ih (tE B L p) (n' - (tE B L p - (p + 1))) (c + 1) ((tE B L p : Int) - 1) G1 (by omega) (by omega) hb.2 (by omega) h1' r2 (by omega) (fun i hi => by rw [r7 17 i (by omega) (by omega)]; exact hT i hi) hB1
          refine ⟨G2, u1, ?_, fun j hj => ?_, fun j hj => ?_, fun y k z1 z2 => ?_, fun y k => (u6 y k).trans (r8 y k), u7⟩
          · rw [u2, List.length_cons]; omega
          · cases j with
            | zero =>
              have := u4 c (by omega)
              show gi G2 18 c = tK B L p ∧ gi G2 19 c = tV B L p ∧ gi G2 20 c = (p : Int)
              rw [this.1, this.2.1, this.2.2]
              exact ⟨r3, r4, r5⟩
            | succ j =>
              rw [List.length_cons] at hj
              have := u3 j (by omega)
              rw [show c + (j + 1) = c + 1 + j by omega]
              exact this
          · have w1 := u4 j (by omega)
            have w2 := r6 j hj
            exact ⟨w1.1.trans w2.1, w1.2.1.trans w2.2.1, w1.2.2.trans w2.2.2⟩
          · rw [u5 y k z1 z2]
            exact r7 y k z1 (by omega)
    · rw [tks_eq B L (m + 1) m p (by omega) (by omega)]
      exact ih p n c x G (by omega) a2 a3 a4 h1 h6 hc hT hB
/-- the whole scan -/
theorem scan_C {G : GS} (hT : InvT G) : ∃ G', f_Text_scan G = some G' ∧ (∃ G0, Put G0 G' 0 (tks (TB G) (gi G 15 1).toNat (gi G 15 1).toNat 0)) ∧ (∀ x k, ¬ (18 ≤ x ∧ x ≤ 20) → ¬ (x = 15 ∧ (k = 1 ∨ (6 ≤ k ∧ k ≤ 9))) → gi G' x k = gi G x k) ∧ (∀ x k, gp G' x k = gp G x k) ∧ gi G' 15 1 = 0 ∧ gi G' 15 7 = 0 ∧ gi G' 15 8 = 0 ∧ gi G' 15 9 = -1 := by
  obtain ⟨t1, t2, t3, t4⟩ := hT
  have f : ∀ x k, ¬ (x = 15 ∧ 6 ≤ k ∧ k ≤ 9) → gi (si (si (si (si G 15 6 0) 15 7 0) 15 8 0) 15 9 (-1)) x k = gi G x k := fun x k z => by rw [gi_si, if_neg (by omega), gi_si, if_neg (by omega), gi_si, if_neg (by omega), gi_si, if_neg (by omega)]
  have v6 : gi (si (si (si (si G 15 6 0) 15 7 0) 15 8 0) 15 9 (-1)) 15 6 = ((0 : Nat) : Int) := by rw [gi_si, if_neg (by omega), gi_si, if_neg (by omega), gi_si, if_neg (by omega), gi_si, if_pos ⟨rfl, rfl⟩]; exact wr_zero
  have v7 : gi (si (si (si (si G 15 6 0) 15 7 0) 15 8 0) 15 9 (-1)) 15 7 = 0 := by rw [gi_si, if_neg (by omega), gi_si, if_neg (by omega), gi_si, if_pos ⟨rfl, rfl⟩]; exact wr_zero
  have v8 : gi (si (si (si (si G 15 6 0) 15 7 0) 15 8 0) 15 9 (-1)) 15 8 = 0 := by rw [gi_si, if_neg (by omega), gi_si, if_pos ⟨rfl, rfl⟩]; exact wr_zero
  have v9 : gi (si (si (si (si G 15 6 0) 15 7 0) 15 8 0) 15 9 (-1)) 15 9 = -1 := by rw [gi_si, if_pos ⟨rfl, rfl⟩]; rfl
  have e : f_Text_scan G = f_Text_scan_L24 FU (si (si (si (si G 15 6 0) 15 7 0) 15 8 0) 15 9 (-1)) (-1) 0 := by simp only [f_Text_scan, wG]
  rw [e]
  have q : ∀ x k, gp (si (si (si (si G 15 6 0) 15 7 0) 15 8 0) 15 9 (-1)) x k = gp G x k := fun _ _ => rfl
  generalize si (si (si (si G 15 6 0) 15 7 0) 15 8 0) 15 9 (-1) = G1 at *
  obtain ⟨G', r1, r2⟩ := scan_L (L := (gi G 15 1).toNat) (B := TB G) (by omega) (gi G 15 1).toNat 0 FU 0 (-1) G1 (by omega) (by unfold FU; omega) (by omega) (by omega) (by rw [f 15 1 (by omega)]; omega) v6 (by omega) (fun i hi => by rw [f 17 i (by omega)]; exact t4 i hi) (by funext k; exact f 16 k (by omega))
  obtain ⟨u2, u3, u4, u5, u6, u7⟩ := id r2
  exact ⟨G', r1, ⟨G1, r2⟩, fun x k z1 z2 => by rw [u5 x k z1 (by omega), f x k (by omega)], fun x k => (u6 x k).trans (q x k), u7, by rw [u5 15 7 (by omega) (by omega)]; exact v7, by rw [u5 15 8 (by omega) (by omega)]; exact v8, by rw [u5 15 9 (by omega) (by omega)]; exact v9⟩
