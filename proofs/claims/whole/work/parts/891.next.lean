/-! the reference's next token -/
def seeV (B : Nat → Int) (L p : Nat) : Int := if L ≤ p then -1 else if B p < 0 then B p + 256 else B p
theorem see_M {G : GS} {B : Nat → Int} {L : Nat} (hT : TxM G B L) (p : Nat) : f_Model_see G p = some (seeV B L p) := by
  obtain ⟨T1, T2, T3, T4⟩ := hT
  unfold f_Model_see seeV
  rw [T1]
  by_cases c : L ≤ p
  · rw [if_pos c, if_pos (by omega)]
  · rw [if_neg c, if_neg (by omega), gd, if_pos (by omega), Int.toNat_natCast, T3]
theorem isL_M (G : GS) (b : Int) : f_Model_isLetter G b = some (if isL b = true then 1 else 0) := by
  unfold f_Model_isLetter isL
  simp only [isIn_eq, Option.bind_some, ite01, decide_eq_true_eq]
  by_cases a1 : 97 ≤ b ∧ b ≤ 122
  · rw [if_neg (fun z => z a1), if_pos (Or.inl a1)]
  · rw [if_pos a1]
    by_cases a2 : 65 ≤ b ∧ b ≤ 90
    · rw [if_neg (fun z => z a2), if_pos (Or.inr a2)]
    · rw [if_pos a2, if_neg (fun z => by rcases z with z | z; exact a1 z; exact a2 z)]
theorem isD_M (G : GS) (b : Int) : f_Model_isDigit G b = some (if isD b = true then 1 else 0) := by
  unfold f_Model_isDigit isD
  simp only [isIn_eq, Option.bind_some, decide_eq_true_eq]
theorem isL_see {B : Nat → Int} {L p : Nat} (hB : ∀ k, -128 ≤ B k ∧ B k ≤ 127) : isL (seeV B L p) = (decide (p < L) && isL (B p)) := by
  have := hB p
  unfold seeV isL
  by_cases c : L ≤ p
  · rw [if_pos c, decide_eq_false (show ¬ p < L by omega), Bool.false_and]; decide
  · rw [if_neg c, decide_eq_true (show p < L by omega), Bool.true_and]
    split
    · rw [decide_eq_decide]; omega
    · rfl
theorem isD_see {B : Nat → Int} {L p : Nat} (hB : ∀ k, -128 ≤ B k ∧ B k ≤ 127) : isD (seeV B L p) = (decide (p < L) && isD (B p)) := by
  have := hB p
  unfold seeV isD
  by_cases c : L ≤ p
  · rw [if_pos c, decide_eq_false (show ¬ p < L by omega), Bool.false_and]; decide
  · rw [if_neg c, decide_eq_true (show p < L by omega), Bool.true_and]
    split
    · rw [decide_eq_decide]; omega
    · rfl
def Mx (G G' : GS) : Prop := (∀ c k, ¬ (c = 81 ∧ 44 ≤ k ∧ k ≤ 47) → gi G' c k = gi G c k) ∧ ∀ c k, gp G' c k = gp G c k
theorem Mx.rf (G : GS) : Mx G G := ⟨fun _ _ _ => rfl, fun _ _ => rfl⟩
theorem Mx.trans {A B C : GS} (h1 : Mx A B) (h2 : Mx B C) : Mx A C := ⟨fun c k z => (h2.1 c k z).trans (h1.1 c k z), fun c k => (h2.2 c k).trans (h1.2 c k)⟩
theorem Mx_si {G : GS} {k : Nat} {v : Int} (h : 44 ≤ k ∧ k ≤ 47) : Mx G (si G 81 k v) := ⟨fun c' k' z => by rw [gi_si, if_neg (by omega)], fun _ _ => rfl⟩
theorem TxM.mx {G G' : GS} {B : Nat → Int} {L : Nat} (h : Mx G G') (hT : TxM G B L) : TxM G' B L := ⟨by rw [h.1 81 43 (by omega)]; exact hT.1, hT.2.1, fun k => by rw [h.1 117 k (by omega)]; exact hT.2.2.1 k, hT.2.2.2⟩
def wTok (f K : Int) : Int := if f = 0 then memK K else lawK K
theorem lawK_w : ∀ w, w < 36 → wr (lawK (100 + (w : Nat))) = lawK (100 + (w : Nat)) ∧ wr (memK (100 + (w : Nat))) = memK (100 + (w : Nat)) := by decide +kernel
theorem wTok_wr {f : Int} {B : Nat → Int} {p e : Nat} : wr (wTok f (wkF B p e 36 0)) = wTok f (wkF B p e 36 0) := by
  unfold wTok
  rcases wkF_1 (B := B) (p := p) (e := e) 36 0 rfl with ⟨v, a1, a2, a3, a4⟩ | ⟨a1, a2⟩
  · rw [a4]
    split
    · exact (lawK_w v a2).2
    · exact (lawK_w v a2).1
  · rw [a2]
    split <;> decide
theorem nx76 {B : Nat → Int} {L p : Nat} : ∀ (m q n : Nat) (G : GS), TxM G B L → L - q ≤ m → m < n → q ≤ L → gi G 81 46 = p → gi G 81 44 = q → p < rN isL B L q → ∃ G', f_Model_next0_L76 n G = some G' ∧ Mx G G' ∧ gi G' 81 44 = rN isL B L q ∧ gi G' 81 46 = p ∧ gi G' 81 45 = wTok (gi G 81 53) (wkF B p (rN isL B L q) 36 0) := by
  intro m
  induction m with
  | zero =>
    intro q n G hT a1 a2 a3 h46 h44 hpe
    obtain ⟨n', rfl⟩ : ∃ n', n = n' + 1 := ⟨n - 1, by omega⟩
    have hq : rN isL B L q = q := by rw [rN_eq, if_neg (by omega)]
    rw [hq] at hpe ⊢
    have hw : gi G 81 53 = gi G 81 53 := rfl
    refine ⟨si G 81 45 (wTok (gi G 81 53) (wkF B p q 36 0)), ?_, Mx_si (by omega), by rw [gi_si, if_neg (by omega)]; exact h44, by rw [gi_si, if_neg (by omega)]; exact h46, by rw [gi_si, if_pos ⟨rfl, rfl⟩]; exact wTok_wr⟩
    rw [f_Model_next0_L76, h44, see_M hT, Option.bind_some, isL_M, Option.bind_some, isL_see hT.2.2.2, decide_eq_false (by omega), Bool.false_and, if_pos (show (if (false = true) then (1 : Int) else 0) = 0 from rfl)]
    unfold wTok
    by_cases c : gi G 81 53 = 0
    · rw [if_pos c, if_pos c, memW_M hT h46 h44 hpe (by omega)]; rfl
    · rw [if_neg c, if_neg c, lawW_M hT h46 h44 hpe (by omega)]; rfl
  | succ m ih =>
    intro q n G hT a1 a2 a3 h46 h44 hpe
    obtain ⟨n', rfl⟩ : ∃ n', n = n' + 1 := ⟨n - 1, by omega⟩
    by_cases d : q < L ∧ isL (B q) = true
    · have hq : rN isL B L q = rN isL B L (q + 1) := by rw [rN_eq isL B L q, if_pos d.1, if_pos d.2]
      rw [hq] at hpe ⊢
      have hL := hT.2.1
      obtain ⟨G', r1, r2, r3, r4, r5⟩ := ih (q + 1) n' (si G 81 44 ((q : Int) + 1)) (hT.mx (Mx_si (by omega))) (by omega) (by omega) (by omega) (by rw [gi_si, if_neg (by omega)]; exact h46) (by rw [gi_si, if_pos ⟨rfl, rfl⟩, wr_of (by omega) (by omega)]; omega) hpe
      refine ⟨G', ?_, (Mx_si (by omega)).trans r2, r3, r4, ?_⟩
      · rw [f_Model_next0_L76, h44, see_M hT, Option.bind_some, isL_M, Option.bind_some, isL_see hT.2.2.2, decide_eq_true d.1, Bool.true_and, d.2, if_pos rfl, if_neg (by decide)]
        exact r1
      · rw [r5, gi_si, if_neg (by omega)]
    · have hq : rN isL B L q = q := by
        rw [rN_eq]
        by_cases y : q < L
        · rw [if_pos y, if_neg (fun z => d ⟨y, z⟩)]
        · rw [if_neg y]
      have hz : (decide (q < L) && isL (B q)) = false := by
        by_cases y : q < L
        · rw [decide_eq_true y, Bool.true_and]
          cases z : isL (B q)
          · rfl
          · exact absurd ⟨y, z⟩ d
        · rw [decide_eq_false y, Bool.false_and]
      rw [hq] at hpe ⊢
      refine ⟨si G 81 45 (wTok (gi G 81 53) (wkF B p q 36 0)), ?_, Mx_si (by omega), by rw [gi_si, if_neg (by omega)]; exact h44, by rw [gi_si, if_neg (by omega)]; exact h46, by rw [gi_si, if_pos ⟨rfl, rfl⟩]; exact wTok_wr⟩
      rw [f_Model_next0_L76, h44, see_M hT, Option.bind_some, isL_M, Option.bind_some, isL_see hT.2.2.2, hz, if_pos (show (if (false = true) then (1 : Int) else 0) = 0 from rfl)]
      unfold wTok
      by_cases c : gi G 81 53 = 0
      · rw [if_pos c, if_pos c, memW_M hT h46 h44 hpe (by omega)]; rfl
      · rw [if_neg c, if_neg c, lawW_M hT h46 h44 hpe (by omega)]; rfl
theorem nx140 {B : Nat → Int} {L p : Nat} : ∀ (m q n : Nat) (G : GS) (v : Int), TxM G B L → L - q ≤ m → m < n → q ≤ L → p ≤ q → gi G 81 46 = p → gi G 81 44 = q → gi G 81 47 = v → ∃ G', f_Model_next0_L140 n G = some G' ∧ Mx G G' ∧ gi G' 81 44 = rN isD B L q ∧ gi G' 81 46 = p ∧ gi G' 81 45 = (if 6 ≤ rN isD B L q - p then 1 else 2) ∧ (rN isD B L q - p ≤ 5 → gi G' 81 47 = nV B (rN isD B L q - q) q v) := by
  intro m
  induction m with
  | zero =>
    intro q n G v hT a1 a2 a3 a4 h46 h44 h47
    obtain ⟨n', rfl⟩ : ∃ n', n = n' + 1 := ⟨n - 1, by omega⟩
    have hL := hT.2.1
    have hq : rN isD B L q = q := by rw [rN_eq, if_neg (by omega)]
    rw [hq]
    refine ⟨si G 81 45 (if 6 ≤ q - p then 1 else 2), ?_, Mx_si (by omega), by rw [gi_si, if_neg (by omega)]; exact h44, by rw [gi_si, if_neg (by omega)]; exact h46, by rw [gi_si, if_pos ⟨rfl, rfl⟩]; split <;> rfl, fun _ => by rw [gi_si, if_neg (by omega), Nat.sub_self]; exact h47⟩
    rw [f_Model_next0_L140, h44, see_M hT, Option.bind_some, isD_M, Option.bind_some, isD_see hT.2.2.2, decide_eq_false (by omega), Bool.false_and, if_pos (show (if (false = true) then (1 : Int) else 0) = 0 from rfl), h46, wr_of (by omega) (by omega)]
    by_cases c : 6 ≤ q - p
    · rw [if_pos c, if_pos (by omega)]; rfl
    · rw [if_neg c, if_neg (by omega)]; rfl
  | succ m ih =>
    intro q n G v hT a1 a2 a3 a4 h46 h44 h47
    obtain ⟨n', rfl⟩ : ∃ n', n = n' + 1 := ⟨n - 1, by omega⟩
    have hL := hT.2.1
    by_cases d : q < L ∧ isD (B q) = true
    · have hq : rN isD B L q = rN isD B L (q + 1) := by rw [rN_eq isD B L q, if_pos d.1, if_pos d.2]
      have hb := rN_b isD B L L (q + 1) (by omega) (by omega)
      have h5 : wr ((p : Int) + 5) = (p : Int) + 5 := wr_of (by omega) (by omega)
      have hsee : seeV B L q = B q := by
        have hd := d.2
        unfold isD at hd
        have hd := of_decide_eq_true hd
        unfold seeV
        rw [if_neg (by omega), if_neg (by omega)]
      have pre : f_Model_next0_L140 (n' + 1) G = if (p : Int) + 5 ≤ (q : Int) then f_Model_next0_L190 (f_Model_next0_L140 n') G else f_Model_next0_L190 (f_Model_next0_L140 n') (si G 81 47 (((10 * v) + B q) - 48)) := by
        rw [f_Model_next0_L140, h44, see_M hT, Option.bind_some, isD_M, Option.bind_some, isD_see hT.2.2.2, decide_eq_true d.1, Bool.true_and, d.2, if_pos rfl, if_neg (show ¬ (1 : Int) = 0 by decide), h46, h5, h47, hsee]
        rfl
      rw [hq, pre]
      by_cases c : (p : Int) + 5 ≤ (q : Int)
      · obtain ⟨G', r1, r2, r3, r4, r5, r6⟩ := ih (q + 1) n' (si G 81 44 ((q : Int) + 1)) v (hT.mx (Mx_si (by omega))) (by omega) (by omega) (by omega) (by omega) (by rw [gi_si, if_neg (by omega)]; exact h46) (by rw [gi_si, if_pos ⟨rfl, rfl⟩, wr_of (by omega) (by omega)]; omega) (by rw [gi_si, if_neg (by omega)]; exact h47)
        refine ⟨G', ?_, (Mx_si (by omega)).trans r2, r3, r4, r5, fun z => by omega⟩
        rw [if_pos c, f_Model_next0_L190, h44]
        exact r1
      · obtain ⟨G', r1, r2, r3, r4, r5, r6⟩ := ih (q + 1) n' (si (si G 81 47 (((10 * v) + B q) - 48)) 81 44 ((q : Int) + 1)) (wr (((10 * v) + B q) - 48)) ((hT.mx (Mx_si (by omega))).mx (Mx_si (by omega))) (by omega) (by omega) (by omega) (by omega) (by rw [gi_si, if_neg (by omega), gi_si, if_neg (by omega)]; exact h46) (by rw [gi_si, if_pos ⟨rfl, rfl⟩, wr_of (by omega) (by omega)]; omega) (by rw [gi_si, if_neg (by omega), gi_si, if_pos ⟨rfl, rfl⟩])
        refine ⟨G', ?_, (Mx_si (by omega)).trans ((Mx_si (by omega)).trans r2), r3, r4, r5, fun z => ?_⟩
        · rw [if_neg c, f_Model_next0_L190]
          have h44' : gi (si G 81 47 (((10 * v) + B q) - 48)) 81 44 = (q : Int) := by rw [gi_si, if_neg (by omega)]; exact h44
          rw [h44']
          exact r1
        · rw [r6 z, show rN isD B L (q + 1) - q = (rN isD B L (q + 1) - (q + 1)) + 1 by omega]
          rfl
    · have hq : rN isD B L q = q := by
        rw [rN_eq]
        by_cases y : q < L
        · rw [if_pos y, if_neg (fun z => d ⟨y, z⟩)]
        · rw [if_neg y]
      have hz : (decide (q < L) && isD (B q)) = false := by
        by_cases y : q < L
        · rw [decide_eq_true y, Bool.true_and]
          cases z : isD (B q)
          · rfl
          · exact absurd ⟨y, z⟩ d
        · rw [decide_eq_false y, Bool.false_and]
      rw [hq]
      refine ⟨si G 81 45 (if 6 ≤ q - p then 1 else 2), ?_, Mx_si (by omega), by rw [gi_si, if_neg (by omega)]; exact h44, by rw [gi_si, if_neg (by omega)]; exact h46, by rw [gi_si, if_pos ⟨rfl, rfl⟩]; split <;> rfl, fun _ => by rw [gi_si, if_neg (by omega), Nat.sub_self]; exact h47⟩
      rw [f_Model_next0_L140, h44, see_M hT, Option.bind_some, isD_M, Option.bind_some, isD_see hT.2.2.2, hz, if_pos (show (if (false = true) then (1 : Int) else 0) = 0 from rfl), h46, wr_of (by omega) (by omega)]
      by_cases c : 6 ≤ q - p
      · rw [if_pos c, if_pos (by omega)]; rfl
      · rw [if_neg c, if_neg (by omega)]; rfl
