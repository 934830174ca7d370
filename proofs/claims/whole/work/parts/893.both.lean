/-! both sides at the same token -/
theorem tks_sk {B : Nat → Int} {L : Nat} : ∀ (m p : Nat), L - p ≤ m → p ≤ L → tks B L m p = if rN isW B L p < L then (tK B L (rN isW B L p), tV B L (rN isW B L p), (rN isW B L p : Int)) :: tks B L L (tE B L (rN isW B L p)) else [(0, 0, (L : Int))] := by
  intro m
  induction m with
  | zero =>
    intro p h1 h2
    have hq : rN isW B L p = p := by rw [rN_eq, if_neg (by omega)]
    rw [hq, if_neg (by omega)]; rfl
  | succ m ih =>
    intro p h1 h2
    by_cases c : p < L
    · rw [tks, if_pos c]
      by_cases w : isW (B p) = true
      · have hq : rN isW B L p = rN isW B L (p + 1) := by rw [rN_eq isW B L p, if_pos c, if_pos w]
        rw [if_pos (of_decide_eq_true w), hq]
        exact ih (p + 1) (by omega) (by omega)
      · have hq : rN isW B L p = p := by rw [rN_eq, if_pos c, if_neg w]
        have hb := tE_b (B := B) c
        rw [if_neg (of_decide_eq_false (Bool.eq_false_iff.mpr w)), hq, if_pos c, tks_eq B L m L (tE B L p) (by omega) (by omega)]
    · have hq : rN isW B L p = p := by rw [rN_eq, if_neg c]
      rw [tks, if_neg c, hq, if_neg c]
theorem rW_idem {B : Nat → Int} {L : Nat} : ∀ (m p : Nat), L - p ≤ m → rN isW B L (rN isW B L p) = rN isW B L p := by
  intro m
  induction m with
  | zero => intro p h; rw [rN_eq isW B L p, if_neg (by omega), rN_eq, if_neg (by omega)]
  | succ m ih =>
    intro p h
    by_cases c : p < L ∧ isW (B p) = true
    · have hq : rN isW B L p = rN isW B L (p + 1) := by rw [rN_eq isW B L p, if_pos c.1, if_pos c.2]
      rw [hq]; exact ih (p + 1) (by omega)
    · have hq : rN isW B L p = p := by
        rw [rN_eq]
        by_cases y : p < L
        · rw [if_pos y, if_neg (fun z => c ⟨y, z⟩)]
        · rw [if_neg y]
      rw [hq, hq]
/-- kind, value of the class; token of the reference; the next token's place -/
def kC (B : Nat → Int) (L q : Nat) : Int := if q < L then tK B L q else 0
def vC (B : Nat → Int) (L q : Nat) : Int := if q < L then tV B L q else 0
def mC (f : Int) (B : Nat → Int) (L q : Nat) : Int := if q < L then mTok f B L q else 0
def nq (B : Nat → Int) (L q : Nat) : Nat := rN isW B L (tE B L q)
/-- the class stands at its token number i, which lies at q -/
def atC (G : GS) (B : Nat → Int) (L i q : Nat) : Prop := (∃ lst : List (Int × Int × Int), lst.length ≤ 801 ∧ gi G 15 6 = lst.length ∧ (∀ j, j < lst.length → gi G 18 j = (lst.getD j (0, 0, 0)).1 ∧ gi G 19 j = (lst.getD j (0, 0, 0)).2.1 ∧ gi G 20 j = (lst.getD j (0, 0, 0)).2.2) ∧ lst.drop i = tks B L L q) ∧ gi G 15 7 = i ∧ q ≤ L ∧ rN isW B L q = q
theorem atC_fr {G G' : GS} {B : Nat → Int} {L i q : Nat} (h6 : gi G' 15 6 = gi G 15 6) (h7 : gi G' 15 7 = gi G 15 7) (h : ∀ c k, 18 ≤ c → c ≤ 20 → gi G' c k = gi G c k) (hA : atC G B L i q) : atC G' B L i q := by
  obtain ⟨⟨lst, a1, a2, a3, a4⟩, a5, a6, a7⟩ := hA
  exact ⟨⟨lst, a1, by rw [h6]; exact a2, fun j hj => by rw [h 18 j (by decide) (by decide), h 19 j (by decide) (by decide), h 20 j (by decide) (by decide)]; exact a3 j hj, a4⟩, by rw [h7]; exact a5, a6, a7⟩
theorem atC_hd {G : GS} {B : Nat → Int} {L i q : Nat} (h : atC G B L i q) : i < 801 ∧ ((gi G 15 6 : Int) > i) ∧ gi G 18 i = kC B L q ∧ gi G 19 i = vC B L q ∧ gi G 20 i = (q : Int) := by
  obtain ⟨⟨lst, a1, a2, a3, a4⟩, a5, a6, a7⟩ := h
  rw [tks_sk L q (by omega) a6, a7] at a4
  have hne : i < lst.length := by
    rcases Nat.lt_or_ge i lst.length with z | z
    · exact z
    · rw [List.drop_eq_nil_of_le z] at a4
      split at a4 <;> cases a4
  have hd : lst.getD i (0, 0, 0) = (lst.drop i).headD (0, 0, 0) := by
    rw [List.getD_eq_getElem?_getD, List.headD_eq_head?_getD, List.head?_drop]
  have h3 := a3 i hne
  rw [hd, a4] at h3
  refine ⟨by omega, by omega, ?_⟩
  unfold kC vC
  by_cases c : q < L
  · rw [if_pos c] at h3 ⊢
    rw [if_pos c]
    exact h3
  · rw [if_neg c] at h3 ⊢
    rw [if_neg c]
    have : q = L := by omega
    rw [this]
    exact h3
theorem kind_at {G : GS} {B : Nat → Int} {L i q : Nat} (h : atC G B L i q) : f_Text_kind G = some (kC B L q) := by
  obtain ⟨h1, h2, h3, h4, h5⟩ := atC_hd h
  have h7 := h.2.1
  rw [f_Text_kind, h7, if_neg (by omega), gd, if_pos (by omega), Int.toNat_natCast, h3]
theorem value_at {G : GS} {B : Nat → Int} {L i q : Nat} (h : atC G B L i q) : f_Text_value G = some (vC B L q) := by
  obtain ⟨h1, h2, h3, h4, h5⟩ := atC_hd h
  have h7 := h.2.1
  rw [f_Text_value, h7, if_neg (by omega), gd, if_pos (by omega), Int.toNat_natCast, h4]
theorem step_at {G : GS} {B : Nat → Int} {L i q : Nat} (h : atC G B L i q) (hq : q < L) : f_Text_step G = some (si G 15 7 ((i : Int) + 1)) ∧ atC (si G 15 7 ((i : Int) + 1)) B L (i + 1) (nq B L q) := by
  obtain ⟨h1, h2, h3, h4, h5⟩ := atC_hd h
  obtain ⟨⟨lst, a1, a2, a3, a4⟩, a5, a6, a7⟩ := h
  have hb := tE_b (B := B) hq
  have hr := rN_b isW B L L (tE B L q) (by omega) hb.2
  refine ⟨?_, ⟨lst, a1, by rw [gi_si, if_neg (by omega)]; exact a2, fun j hj => by rw [gi_ne (by decide), gi_ne (by decide), gi_ne (by decide)]; exact a3 j hj, ?_⟩, by rw [gi_si, if_pos ⟨rfl, rfl⟩, wr_of (by omega) (by omega)]; omega, hr.2, rW_idem L _ (by omega)⟩
  · rw [f_Text_step, a5, if_neg (by omega)]; rfl
  · rw [tks_sk L q (by omega) a6, a7, if_pos hq] at a4
    have e1 : lst.drop (i + 1) = tks B L L (tE B L q) := by
      rw [← List.drop_drop, a4]
      rfl
    rw [e1, tks_sk L (tE B L q) (by omega) hb.2, tks_sk L (nq B L q) (by omega) hr.2]
    have e2 : rN isW B L (nq B L q) = nq B L q := rW_idem L _ (by omega)
    rw [e2]
    rfl
/-- the reference stands at the token that lies at q -/
def atM (G : GS) (f : Int) (B : Nat → Int) (L q : Nat) : Prop := gi G 81 46 = q ∧ gi G 81 45 = mC f B L q ∧ gi G 81 44 = (if q < L then (tE B L q : Int) else (L : Int)) ∧ (q < L → isD (B q) = true → mTok f B L q = 2 → gi G 81 47 = tV B L q) ∧ gi G 81 53 = f ∧ TxM G B L
theorem atM_NX {G : GS} {f : Int} {B : Nat → Int} {L p : Nat} (h : NX G f B L p) (h53 : gi G 81 53 = f) (hT : TxM G B L) : atM G f B L (rN isW B L p) := by
  obtain ⟨a1, a2, a3⟩ := h
  refine ⟨a1, ?_, ?_, fun c d e => ((a2 c).2.2 e d), h53, hT⟩
  · unfold mC
    by_cases c : rN isW B L p < L
    · rw [if_pos c]; exact (a2 c).1
    · rw [if_neg c]; exact (a3 c).1
  · by_cases c : rN isW B L p < L
    · rw [if_pos c]; exact (a2 c).2.1
    · rw [if_neg c]; exact (a3 c).2
theorem next_at {G : GS} {f : Int} {B : Nat → Int} {L q : Nat} (h : atM G f B L q) (hq : q < L) : ∃ G', f_Model_next0 G = some G' ∧ Mx G G' ∧ atM G' f B L (nq B L q) := by
  obtain ⟨a1, a2, a3, a4, a5, a6⟩ := h
  rw [if_pos hq] at a3
  have hb := tE_b (B := B) hq
  have hL := a6.2.1
  obtain ⟨G', r1, r2, r3⟩ := nx0 L (tE B L q) FU G a6 (by omega) (by unfold FU; omega) hb.2 a3
  rw [a5] at r3
  exact ⟨G', r1, r2, atM_NX r3 (by rw [r2.1 81 53 (by omega)]; exact a5) (a6.mx r2)⟩
