/-! lines of a law: what they leave -/
abbrev LVs : Type := (Nat → Int) × (Nat → Int) × (Nat → Int) × (Nat → Int) × Int × Int × Int × Int
abbrev Wdd : Type := Int × Int × Int × Int
def eff (s : Int) (w : Wdd) (v : LVs) : LVs :=
  if s = 3 then ((fun j => if w.2.1 = -1 ∨ w.2.1 = j then w.1 else v.1 j), v.2)
  else if s = 4 then (v.1, (fun u => if (u : Int) = w.1 then w.2.1 else v.2.1 u), (fun u => if (u : Int) = w.1 then w.2.2.1 else v.2.2.1 u), (fun u => if (u : Int) = w.1 then w.2.2.2 else v.2.2.2.1 u), v.2.2.2.2)
  else if s = 5 then (v.1, v.2.1, v.2.2.1, v.2.2.2.1, w.1, w.2.1, v.2.2.2.2.2.2)
  else if s = 6 then (v.1, v.2.1, v.2.2.1, v.2.2.2.1, v.2.2.2.2.1, v.2.2.2.2.2.1, w.1, v.2.2.2.2.2.2.2)
  else if s = 7 then (v.1, v.2.1, v.2.2.1, v.2.2.2.1, v.2.2.2.2.1, v.2.2.2.2.2.1, v.2.2.2.2.2.2.1, w.1)
  else v
def v00 : LVs := (fun _ => 0, fun _ => 0, fun _ => 0, fun _ => 0, 1, 3, 9999, 9999)
def vUp (g : Nat → Int × Wdd) : Nat → LVs
  | 0 => v00
  | k + 1 => eff (g k).1 (g k).2 (vUp g k)
def wF (H : GS) (k : Nat) : Wdd := (gi H 109 k, gi H 110 k, gi H 111 k, gi H 112 k)
def gF (H : GS) (k : Nat) : Int × Wdd := (gi H 113 k, wF H k)
theorem vUp_fr {g g' : Nat → Int × Wdd} : ∀ m, (∀ k, k < m → g' k = g k) → vUp g' m = vUp g m := by
  intro m
  induction m with
  | zero => intro _; rfl
  | succ m ih =>
    intro h
    rw [vUp, vUp, h m (by omega), ih (fun k hk => h k (by omega))]
def goodW (s : Int) (w : Wdd) : Prop := (s = 3 → (0 ≤ w.1 ∧ w.1 ≤ 2) ∧ (-1 ≤ w.2.1 ∧ w.2.1 ≤ 3)) ∧ (s = 4 → (0 ≤ w.1 ∧ w.1 ≤ 2) ∧ (0 ≤ w.2.1 ∧ w.2.1 ≤ 40) ∧ (0 ≤ w.2.2.1 ∧ w.2.2.1 ≤ 40) ∧ (0 ≤ w.2.2.2 ∧ w.2.2.2 ≤ 2)) ∧ (s = 5 → 0 ≤ w.1 ∧ w.1 ≤ w.2.1 ∧ 1 ≤ w.2.1 ∧ w.2.1 ≤ 99999) ∧ (s = 6 ∨ s = 7 → 0 ≤ w.1 ∧ w.1 ≤ 9999)
def CV (G : GS) (c : Nat) (v : LVs) : Prop := (∀ j, j < 4 → gi G (c + 1) j = v.1 j) ∧ (∀ u, u < 3 → gi G (c + 2) u = v.2.1 u ∧ gi G (c + 3) u = v.2.2.1 u ∧ gi G (c + 4) u = v.2.2.2.1 u) ∧ gi G c 4 = v.2.2.2.2.1 ∧ gi G c 5 = v.2.2.2.2.2.1 ∧ gi G c 6 = v.2.2.2.2.2.2.1 ∧ gi G c 7 = v.2.2.2.2.2.2.2
theorem CV_fr {G G' : GS} {c : Nat} {v : LVs} (h : ∀ x k, (x = c ∧ 4 ≤ k ∧ k ≤ 7) ∨ (c + 1 ≤ x ∧ x ≤ c + 4) → gi G' x k = gi G x k) (hv : CV G c v) : CV G' c v := by
  obtain ⟨a1, a2, a3, a4, a5, a6⟩ := hv
  exact ⟨fun j hj => by rw [h (c + 1) j (by omega)]; exact a1 j hj, fun u hu => by rw [h (c + 2) u (by omega), h (c + 3) u (by omega), h (c + 4) u (by omega)]; exact a2 u hu, by rw [h c 4 (by omega)]; exact a3, by rw [h c 5 (by omega)]; exact a4, by rw [h c 6 (by omega)]; exact a5, by rw [h c 7 (by omega)]; exact a6⟩
def FW (G G' : GS) (c : Nat) : Prop := (∀ x k, ¬ (x = 15 ∧ (k = 7 ∨ ((k = 8 ∨ k = 9) ∧ gi G' 15 8 ≠ 0))) → ¬ (x = 21 ∧ 3 ≤ k ∧ k ≤ 8) → x ≠ 22 → ¬ (c ≤ x ∧ x ≤ c + 5) → gi G' x k = gi G x k) ∧ ∀ x k, gp G' x k = gp G x k
theorem FW.trans {G G' G'' : GS} {c : Nat} (h : FW G G' c) (h' : FW G' G'' c) : FW G G'' c := ⟨fun x k a1 a2 a3 a4 => by
  have e8 : ¬ (c ≤ 15 ∧ 15 ≤ c + 5) → gi G'' 15 8 = 0 → gi G'' 15 8 = gi G' 15 8 := fun w y => h'.1 15 8 (by omega) (by omega) (by omega) w
  by_cases z : x = 15
  · by_cases y : gi G'' 15 8 = 0
    · have := e8 (by omega) y
      rw [h'.1 x k a1 a2 a3 a4, h.1 x k (by omega) a2 a3 a4]
    · rw [h'.1 x k a1 a2 a3 a4, h.1 x k (by omega) a2 a3 a4]
  · rw [h'.1 x k a1 a2 a3 a4, h.1 x k (by omega) a2 a3 a4], fun x k => by rw [h'.2, h.2]⟩
theorem FL.fw {G G' : GS} {c : Nat} (h : FL G G' c) : FW G G' c := ⟨fun x k a1 a2 a3 a4 => h.1 x k a1 a2 a3 (by omega) (by omega), h.2⟩
theorem FW_stp {G : GS} {c i : Nat} : FW G (stp G i) c := FL_stp.fw
theorem FW_flt {G : GS} {c q : Nat} {k : Int} (hk : wr k ≠ 0) : FW G (flt G k q) c := (FL_flt hk).fw
theorem FW_si {G : GS} {c x n : Nat} {v : Int} (hx : c ≤ x ∧ x ≤ c + 5) : FW G (si G x n v) c := ⟨fun y k a1 a2 a3 a4 => gi_ne (by omega), fun _ _ => rfl⟩
theorem FW_fill {G : GS} {c x n : Nat} {v : Int} (hx : c ≤ x ∧ x ≤ c + 5) : FW G (fillG G x n v) c := ⟨fun y k a1 a2 a3 a4 => by rw [gi_fill, if_neg (by omega)], fun _ _ => rfl⟩
/-- where the class stands in a law's text -/
def RC (G : GS) (c : Nat) (B : Nat → Int) (L i q : Nat) (cd : List Int) (v : LVs) : Prop := atC G B L i q ∧ gi G 15 8 = 0 ∧ gp G 21 1 = c ∧ gi G c 9 = (cd.length : Nat) ∧ Ar G (c + 5) cd ∧ cd.length ≤ i ∧ CV G c v
theorem RC_stp {G : GS} {c : Nat} {B : Nat → Int} {L i q : Nat} {cd : List Int} {v : LVs} (hc : lawC c = true) (hq : q < L) (h : RC G c B L i q cd v) : RC (stp G i) c B L (i + 1) (nq B L q) cd v := by
  have hr := law_rng hc
  obtain ⟨a1, a2, a3, a4, a5, a6, a7⟩ := h
  exact ⟨stp_at a1 hq, by rw [stp_gi (by omega)]; exact a2, a3, by rw [stp_gi (by omega)]; exact a4, Ar_fr (fun j _ => stp_gi (by omega)) a5, by omega, CV_fr (fun x k hx => stp_gi (by omega)) a7⟩
/-- a write of the law's own cells -/
theorem RC_si {G : GS} {c : Nat} {B : Nat → Int} {L i q x n : Nat} {cd : List Int} {v v' : LVs} {w : Int} (hc : lawC c = true) (hx : (x = c ∧ 4 ≤ n ∧ n ≤ 7) ∨ (c + 1 ≤ x ∧ x ≤ c + 4)) (h : RC G c B L i q cd v) (hv : CV (si G x n w) c v') : RC (si G x n w) c B L i q cd v' := by
  have hr := law_rng hc
  obtain ⟨a1, a2, a3, a4, a5, a6, a7⟩ := h
  exact ⟨atC_fr (gi_ne (by omega)) (gi_ne (by omega)) (fun x k z1 z2 => gi_ne (by omega)) a1, by rw [gi_ne (by omega)]; exact a2, a3, by rw [gi_si, if_neg (by omega)]; exact a4, Ar_fr (fun j _ => gi_ne (by omega)) a5, a6, hv⟩
def FRm (H H' : GS) (m : Nat) : Prop := (∀ x k, ¬ (x = 81 ∧ (k = 42 ∨ (44 ≤ k ∧ k ≤ 49) ∨ k = 51 ∨ k = 54)) → x ≠ 116 → ¬ (((109 ≤ x ∧ x ≤ 112) ∨ x = 115) ∧ k = m) → gi H' x k = gi H x k) ∧ ∀ x k, gp H' x k = gp H x k
theorem FRm.trans {H H' H'' : GS} {m : Nat} (h : FRm H H' m) (h' : FRm H' H'' m) : FRm H H'' m := ⟨fun x k a1 a2 a3 => by rw [h'.1 x k a1 a2 a3, h.1 x k a1 a2 a3], fun x k => by rw [h'.2, h.2]⟩
theorem FH.frm {H H' : GS} {m : Nat} (h : FH H H') : FRm H H' m := ⟨fun x k a1 a2 _ => h.1 x k a1 a2, h.2⟩
theorem FRm_Mx {H H' : GS} {m : Nat} (h : Mx H H') : FRm H H' m := (FH_Mx h).frm
theorem FRm_54 {H : GS} {m : Nat} {v : Int} : FRm H (si H 81 54 v) m := ⟨fun x k a1 a2 _ => by rw [gi_si, if_neg (by omega)], fun _ _ => rfl⟩
theorem FRm_bad {H : GS} {m q : Nat} {v : Int} : FRm H (bad H v q) m := FH_bad.frm
theorem FRm_si {H : GS} {m x : Nat} {v : Int} (hx : (109 ≤ x ∧ x ≤ 112) ∨ x = 115) : FRm H (si H x m v) m := ⟨fun y k a1 a2 a3 => by rw [gi_si, if_neg (by omega)], fun _ _ => rfl⟩
theorem MS_54 {H : GS} {B : Nat → Int} {L q : Nat} {d : Int} {st : Fm} {v : Int} (h : MS H B L q d st) : MS (si H 81 54 v) B L q d st := by
  obtain ⟨a1, a2, a3, a4, a5⟩ := h
  exact ⟨atM_si (by decide) a1, by rw [gi_si, if_neg (by omega)]; exact a2, by rw [gi_si, if_neg (by omega)]; exact a3, fun j hj => by rw [gi_ne (by decide), gi_ne (by decide)]; exact a4 j hj, by rw [gi_si, if_neg (by omega)]; exact a5⟩
theorem MS_si {H : GS} {B : Nat → Int} {L q x m : Nat} {d : Int} {st : Fm} {v : Int} (hx : 109 ≤ x ∧ x ≤ 115) (h : MS H B L q d st) : MS (si H x m v) B L q d st := by
  obtain ⟨a1, a2, a3, a4, a5⟩ := h
  exact ⟨atM_sj (by omega) a1, by rw [gi_ne (by omega)]; exact a2, by rw [gi_ne (by omega)]; exact a3, fun j hj => by rw [gi_ne (by omega), gi_ne (by omega)]; exact a4 j hj, by rw [gi_ne (by omega)]; exact a5⟩
/-- a line's inside, told alike; or a fault -/
def LOk (c : Nat) (B : Nat → Int) (L : Nat) (G H : GS) (i m : Nat) (cd : List Int) (st : Fm) (v : LVs) (s : Int) (rc : Option GS) (rm : Option (Int × GS)) : Prop := ∃ G' H' i' q' E F, rc = some G' ∧ rm = some (1, H') ∧ FW G G' c ∧ FRm H H' m ∧ RC G' c B L i' q' (cd ++ clsL' (s, E, F)) (eff s (wF H' m) v) ∧ MS H' B L q' 0 (st ++ (E ++ F)) ∧ gi H' 115 m = st.length + E.length ∧ goodW s (wF H' m) ∧ okL (s, E, F) ∧ (E ++ F).length + i ≤ i'
def LBad (c : Nat) (G H : GS) (m : Nat) (rc : Option GS) (rm : Option (Int × GS)) : Prop := ∃ G' H' k x, rc = some G' ∧ rm = some (0, H') ∧ FW G G' c ∧ gi G' 15 8 = k ∧ gi G' 15 9 = x ∧ FRm H H' m ∧ gi H' 81 48 = k ∧ gi H' 81 49 = x ∧ (1 ≤ k ∧ k ≤ 3)
theorem lbad {c : Nat} {G G' H H0 : GS} {m x : Nat} {rc : Option GS} {rm : Option (Int × GS)} {k : Int} (hk : 1 ≤ k ∧ k ≤ 3) (hx : x ≤ 800) (e1 : rc = some G') (e2 : rm = some (0, bad H0 k x)) (hF : FW G G' c) (hG : gi G' 15 8 = k ∧ gi G' 15 9 = x) (hH : FRm H H0 m) : LBad c G H m rc rm := ⟨G', bad H0 k x, k, x, e1, e2, hF, hG.1, hG.2, hH.trans FRm_bad, bad_48 (wr_of (by omega) (by omega)), bad_49 hx, hk⟩
theorem flt_89 {G : GS} {q : Nat} {k : Int} (hk : 1 ≤ k ∧ k ≤ 3) (hq : q ≤ 800) : gi (flt G k q) 15 8 = k ∧ gi (flt G k q) 15 9 = q := ⟨flt_8 (wr_of (by omega) (by omega)), flt_9 hq⟩
theorem cls0 {s : Int} (h : s < 8) : clsL' (s, [], []) = [] := by
  unfold clsL'
  rw [if_neg (show ¬ s = 8 by omega), if_neg (show ¬ s = 9 by omega)]
theorem okL0 {s : Int} (h : 3 ≤ s ∧ s < 8) : okL (s, [], []) := ⟨by dsimp only; omega, fun z => absurd (show s = 8 from z) (by omega), fun z => absurd (show s = 9 from z) (by omega), fun _ => ⟨rfl, rfl⟩, fun q hq => by cases hq⟩
theorem heirs_B {c : Nat} {B : Nat → Int} {L i q m : Nat} {G H : GS} {cd : List Int} {st : Fm} {v : LVs} (hc : lawC c = true) (hL : L ≤ 800) (hB : ∀ k, -128 ≤ B k ∧ B k ≤ 127) (h : RC G c B L i q cd v) (hM : MS H B L q 0 st) (h41 : gi H 81 41 = m) (hm : m < 30) (h115 : gi H 115 m = st.length) : LOk c B L G H i m cd st v 3 (f_LawReader_heirsLine G) (f_Model_inner H 3) ∨ LBad c G H m (f_LawReader_heirsLine G) (f_Model_inner H 3) := by
  have hr := law_rng hc
  have hA := h.1
  have h8 := h.2.1
  have hq := hA.2.2.1
  have t150 := of_decide_eq_true (mLp (fun K m => decide (((150 ≤ m ∧ m < 153) ↔ (107 ≤ K ∧ K < 110)) ∧ (107 ≤ K → K < 110 → m - 150 = K - 107))) (by decide +kernel) B L q)
  obtain ⟨o1, o2⟩ := oneOf_M (a := 150) (n := 3) hM.1 (by decide) (by decide)
  rw [f_LawReader_heirsLine, oneOf_at (a := 107) (n := 3) hB hA h8 (by decide) (by decide), Option.bind_some, f_Model_inner, if_pos rfl, h41]
  by_cases c1 : 107 ≤ kC B L q ∧ kC B L q < 107 + 3
  · rw [if_pos c1]
    have lq : q < L := kC_lt (B := B) (by omega)
    have l1 := nq_le (B := B) lq
    have ev : mC 1 B L q - 150 = kC B L q - 107 := t150.2 (by omega) (by omega)
    obtain ⟨H1, e1, e2, e3⟩ := o1 (by have := t150.1.2 (by omega); omega)
    rw [ev] at e2
    have hR1 := RC_stp hc lq h
    have hM1 : MS H1 B L (nq B L q) 0 st := MS_Mx e3 e2 (MS_54 hM)
    have g54 : gi H1 81 54 = kC B L q - 107 := by rw [e2.1 81 54 (by omega), gi_si, if_pos ⟨rfl, rfl⟩]; exact wr_of (by omega) (by omega)
    have g115 : gi H1 115 m = st.length := by rw [e2.1 115 m (by omega), gi_ne (by decide)]; exact h115
    have hF1 : FRm H H1 m := FRm_54.trans (FRm_Mx e2)
    rw [e1, Option.bind_some, if_neg (n10 H1), gd, if_pos (by omega)]
    dsimp only [wG, Int.toNat_natCast]
    rw [g54, gd, if_pos (by omega)]
    -- the reference's line so far
    have hM2 : MS (si (si H1 109 m (kC B L q - 107)) 110 m (-1)) B L (nq B L q) 0 st := MS_si (by decide) (MS_si (by decide) hM1)
    have hF2 : FRm H (si (si H1 109 m (kC B L q - 107)) 110 m (-1)) m := hF1.trans ((FRm_si (by decide)).trans (FRm_si (by decide)))
    have w1 : gi (si (si H1 109 m (kC B L q - 107)) 110 m (-1)) 109 m = kC B L q - 107 := by rw [gi_ne (by decide), gi_sm, if_pos rfl]; exact wr_of (by omega) (by omega)
    have w2 : gi (si (si H1 109 m (kC B L q - 107)) 110 m (-1)) 110 m = -1 := by rw [gi_sm, if_pos rfl]; exact wr_of (by omega) (by omega)
    have w3 : gi (si (si H1 109 m (kC B L q - 107)) 110 m (-1)) 115 m = st.length := by rw [gi_ne (by decide), gi_ne (by decide)]; exact g115
    generalize si (si H1 109 m (kC B L q - 107)) 110 m (-1) = H2 at *
    have hA1 := hR1.1
    have h81 := hR1.2.1
    have hF : FW G (stp G i) c := FW_stp
    have hgp : gp (stp G i) 21 1 = c := hR1.2.2.1
    have lq1 := hA1.2.2.1
    generalize nq B L q = q1 at *
    have t10 := mLi (a := 121) (b := 10) (by decide +kernel) B L q1
    rw [takeIf_at hA1 h81 (by decide), Option.bind_some, hM2.1.2.1]
    by_cases c2 : kC B L q1 = 121
    · rw [if_pos c2, if_neg (n10 (stp (stp G i) (i + 1))), if_pos (t10.2 c2)]
      have lq1' : q1 < L := kC_lt (B := B) (by omega)
      have l2 := nq_le (B := B) lq1'
      have hR2 := RC_stp hc lq1' hR1
      obtain ⟨H3, d1, d2, d3⟩ := next_at hM2.1 lq1'
      have hM3 := MS_Mx d3 d2 hM2
      rw [d1, Option.bind_some]
      generalize stp G i = G1 at *
      have hFW2 : FW G (stp G1 (i + 1)) c := hF.trans FW_stp
      generalize stp G1 (i + 1) = G2 at *
      generalize nq B L q1 = q2 at *
      obtain ⟨n1, n2, n3⟩ := num_M (a := 0) (m := 3) hM3.1
      have t2 := mLi (a := 2) (b := 2) (by decide +kernel) B L q2
      have vb := vC_b B L q2
      dsimp only
      rw [num_at hR2.1 hR2.2.1, Option.bind_some]
      dsimp only
      by_cases c3 : kC B L q2 = 2
      · rw [if_pos c3]
        by_cases c4 : vC B L q2 ≤ 3
        · left
          rw [if_pos c4]
          obtain ⟨H4, b1, b2, b3⟩ := n1 (t2.2 c3) ⟨vb.1, c4⟩
          have lq2 : q2 < L := kC_lt (B := B) (by omega)
          have hR3 := RC_stp hc lq2 hR2
          have hM4 : MS H4 B L (nq B L q2) 0 st := MS_Mx b3 b2 (MS_54 hM3)
          have k54 : gi H4 81 54 = vC B L q2 := by rw [b2.1 81 54 (by omega), gi_si, if_pos ⟨rfl, rfl⟩]; exact wr_of (by omega) (by omega)
          have hFW3 : FW G (stp G2 (i + 1 + 1)) c := hFW2.trans FW_stp
          rw [b1, Option.bind_some, if_neg (n10 H4), if_pos hR3.2.1, gd, if_pos (by rw [hR3.2.2.1]; exact hc), if_neg (by omega), gd, if_pos (by rw [hR3.2.2.1]; exact hc), gd, if_pos (by omega), gd, if_pos (by omega), hR3.2.2.1, k54]
          generalize stp G2 (i + 1 + 1) = G3 at *
          have hgi : ∀ x k, ¬ (x = 110 ∧ k = m) → x ≠ 81 → gi (si H4 110 m (vC B L q2)) x k = gi H2 x k := fun x k z1 z2 => by rw [gi_si, if_neg z1, b2.1 x k (by omega), gi_ne z2, d2.1 x k (by omega)]
          have hw : wF (si H4 110 m (vC B L q2)) m = (kC B L q - 107, vC B L q2, gi H2 111 m, gi H2 112 m) := by
            unfold wF
            rw [hgi 109 m (by omega) (by decide), hgi 111 m (by omega) (by decide), hgi 112 m (by omega) (by decide), w1, gi_sm, if_pos rfl, wr_of (by omega) (by omega)]
          refine ⟨si G3 (c + 1) (vC B L q2).toNat (kC B L q - 107), si H4 110 m (vC B L q2), i + 1 + 1 + 1, nq B L q2, [], [], rfl, rfl, hFW3.trans (FW_si (by omega)), hF2.trans ((FRm_Mx d2).trans (FRm_54.trans ((FRm_Mx b2).trans (FRm_si (by decide))))), ?_, ?_, ?_, ?_, okL0 (by decide), by simp only [List.append_nil, List.length_nil]; omega⟩
          · rw [cls0 (by decide), List.append_nil, hw]
            refine RC_si hc (by omega) hR3 ?_
            obtain ⟨x1, x2, x3, x4, x5, x6⟩ := hR3.2.2.2.2.2.2
            refine ⟨fun j hj => ?_, fun u hu => ?_, ?_, ?_, ?_, ?_⟩
            · show _ = if vC B L q2 = -1 ∨ vC B L q2 = (j : Int) then kC B L q - 107 else v.1 j
              rw [gi_sm]
              by_cases z : j = (vC B L q2).toNat
              · rw [if_pos z, if_pos (by omega)]; exact wr_of (by omega) (by omega)
              · rw [if_neg z, if_neg (by omega)]; exact x1 j hj
            · rw [gi_ne (by omega), gi_ne (by omega), gi_ne (by omega)]; exact x2 u hu
            · rw [gi_ne (by omega)]; exact x3
            · rw [gi_ne (by omega)]; exact x4
            · rw [gi_ne (by omega)]; exact x5
            · rw [gi_ne (by omega)]; exact x6
          · rw [List.append_nil, List.append_nil]; exact MS_si (by decide) hM4
          · rw [hgi 115 m (by omega) (by decide), w3]; simp
          · rw [hw]
            exact ⟨fun _ => ⟨by dsimp only; omega, by dsimp only; omega⟩, fun z => absurd z (by decide), fun z => absurd z (by decide), fun z => absurd z (by decide)⟩
        · right
          have hf := flt_89 (G := G2) (q := q2) (k := 2) (by decide) (by omega)
          rw [if_neg c4, n2 (t2.2 c3) (fun z => c4 z.2), if_neg (by rw [hf.1]; decide)]
          exact lbad (by decide) (by omega) rfl rfl (hFW2.trans (FW_flt (by decide))) hf (hF2.trans (FRm_Mx d2))
      · right
        have hf := flt_89 (G := G2) (q := q2) (k := 1) (by decide) (by omega)
        rw [if_neg c3, n3 (fun z => c3 (t2.1 z)), if_neg (by rw [hf.1]; decide)]
        exact lbad (by decide) (by omega) rfl rfl (hFW2.trans (FW_flt (by decide))) hf (hF2.trans (FRm_Mx d2))
    · left
      rw [if_neg c2, if_pos rfl, if_neg (fun z => c2 (t10.1 z)), gd, if_pos (by rw [hgp]; exact hc), hgp]
      have hw : wF H2 m = (kC B L q - 107, -1, gi H2 111 m, gi H2 112 m) := by unfold wF; rw [w1, w2]
      refine ⟨fillG (stp G i) (c + 1) 4 (kC B L q - 107), H2, i + 1, q1, [], [], rfl, rfl, hF.trans (FW_fill (by omega)), hF2, ?_, ?_, ?_, ?_, okL0 (by decide), by simp only [List.append_nil, List.length_nil]; omega⟩
      · rw [cls0 (by decide), List.append_nil, hw]
        obtain ⟨a1, a2, a3, a4, a5, a6, x1, x2, x3, x4, x5, x6⟩ := hR1
        refine ⟨atC_fr (by rw [gi_fill, if_neg (by omega)]) (by rw [gi_fill, if_neg (by omega)]) (fun x k z1 z2 => by rw [gi_fill, if_neg (by omega)]) a1, by rw [gi_fill, if_neg (by omega)]; exact a2, a3, by rw [gi_fill, if_neg (by omega)]; exact a4, Ar_fr (fun j _ => by rw [gi_fill, if_neg (by omega)]) a5, a6, fun j hj => ?_, fun u hu => ?_, ?_, ?_, ?_, ?_⟩
        · show _ = if (-1 : Int) = -1 ∨ (-1 : Int) = (j : Int) then kC B L q - 107 else v.1 j
          rw [gi_fill, if_pos ⟨rfl, hj⟩, if_pos (Or.inl rfl)]; exact wr_of (by omega) (by omega)
        · rw [gi_fill, if_neg (by omega), gi_fill, if_neg (by omega), gi_fill, if_neg (by omega)]; exact x2 u hu
        · rw [gi_fill, if_neg (by omega)]; exact x3
        · rw [gi_fill, if_neg (by omega)]; exact x4
        · rw [gi_fill, if_neg (by omega)]; exact x5
        · rw [gi_fill, if_neg (by omega)]; exact x6
      · rw [List.append_nil, List.append_nil]; exact hM2
      · rw [w3]; simp
      · rw [hw]
        exact ⟨fun _ => ⟨by dsimp only; omega, by dsimp only; omega⟩, fun z => absurd z (by decide), fun z => absurd z (by decide), fun z => absurd z (by decide)⟩
  · right
    have hf := flt_89 (G := G) (q := q) (k := 1) (by decide) (by omega)
    rw [if_neg c1, o2 (fun z => c1 (by have := t150.1.1 z; omega))]
    dsimp only
    rw [takeIf_no (by rw [hf.1]; decide), Option.bind_some, if_pos rfl, gd, if_pos (show lawC (gp (flt G 1 q) 21 1) = true by rw [show gp (flt G 1 q) 21 1 = c from h.2.2.1]; exact hc), show gp (flt G 1 q) 21 1 = c from h.2.2.1]
    refine lbad (by decide) (by omega) rfl rfl ((FW_flt (by decide)).trans (FW_fill (by omega))) ?_ ⟨fun _ _ _ _ _ => rfl, fun _ _ => rfl⟩
    rw [gi_fill, if_neg (by omega), gi_fill, if_neg (by omega)]
    exact hf
