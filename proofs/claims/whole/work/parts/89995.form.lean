/-! a whole formula, both sides -/
def CW (G : GS) (c : Nat) (B : Nat → Int) (L i q : Nat) (cd : List Int) : Prop := atC G B L i q ∧ gi G 15 8 = 0 ∧ gp G 21 1 = c ∧ gi G c 9 = (cd.length : Nat) ∧ Ar G (c + 5) cd ∧ cd.length + 1 ≤ i
theorem CW_fs {G G' : GS} {c : Nat} {B : Nat → Int} {L i q : Nat} {cd' : List Int} (hc : lawC c = true) (hA : atC G B L i q) (h8 : gi G 15 8 = 0) (hF : FS G G' c) (hS : SB G' c [] cd') (hi : cd'.length + 1 ≤ i) : CW G' c B L i q cd' := by
  have hr := law_rng hc
  obtain ⟨s1, s2, s3, s4, s5, s6, s7, s8⟩ := hS
  exact ⟨atC_fr (hF.1 15 6 (by omega) (by omega) (by omega)) (hF.1 15 7 (by omega) (by omega) (by omega)) (fun x k z1 z2 => hF.1 x k (by omega) (by omega) (by omega)) hA, by rw [hF.1 15 8 (by omega) (by omega) (by omega)]; exact h8, s1, s5, s6, hi⟩
theorem end_F {G : GS} {c : Nat} {B : Nat → Int} {L i q : Nat} {t cd : List Int} {nt cmp cond last : Int} (hc : lawC c = true) (h : LSf G c B L i q t cd 0 nt cmp cond last) (m : f_LawReader_mayFollow G (kC B L q) = some 0) (hcc : cond = 0 ∨ cmp ≠ 0) (ht : ∀ a ∈ t, 1 ≤ rk a) (N x : Nat) (hN : 802 ≤ N) (hx : x ≤ i) : ∃ G', f_LawReader_formula_L37 (N - i) G 0 1 ((i : Int) - x) = some G' ∧ FL G G' c ∧ CW G' c B L i q (cd ++ flush t) := by
  obtain ⟨hA, h8, hS, ⟨h4, h5, h6, h7, h8'⟩, hi⟩ := h
  have hi8 := (atC_hd hA).1
  rw [show t = t ++ [] from (List.append_nil t).symm] at hS
  obtain ⟨G', r1, r2, r3⟩ := settle_C hc hS ht (show lowS 1 [] from trivial)
  have e138 : f_LawReader_formula_L138 G = some G' := by
    rw [f_LawReader_formula_L138, rank_eq, Option.bind_some, show rk 127 = 1 from rfl, r1]; rfl
  have e109 : f_LawReader_formula_L109 G = some G' := by
    rw [f_LawReader_formula_L109, h5, h7, h8', if_neg (by decide)]
    by_cases z : cond = 0
    · rw [if_pos z, e138]
    · rw [if_neg z, if_neg (by omega), e138]
  rw [lp_0 hA h8 N x hN hx, m, Option.bind_some, if_pos rfl, show N - (i + 1) = N - (i + 2) + 1 by omega, f_LawReader_formula_L37]
  refine ⟨G', ?_, r2.fl, CW_fs hc hA h8 r2 r3 (by rw [List.length_append, flush_len]; omega)⟩
  split
  · exact e109
  · rw [if_pos rfl]; exact e109
def form0 (G : GS) (a : Int) : GS := si (si (si (si (si (si G 21 7 a) 21 3 0) 21 4 0) 21 5 0) 21 6 0) 21 8 0
theorem form_0 {G : GS} {a : Int} (ha : a = 0 ∨ a = 1) : f_LawReader_formula G a = f_LawReader_formula_L37 FU (form0 G a) 1 1 0 := by
  rw [f_LawReader_formula, gd, if_pos ha]; rfl
theorem form0_F {G : GS} {c : Nat} {a : Int} : FL G (form0 G a) c := (FL_21 (by decide)).trans ((FL_21 (by decide)).trans ((FL_21 (by decide)).trans ((FL_21 (by decide)).trans ((FL_21 (by decide)).trans (FL_21 (by decide))))))
theorem form0_g {G : GS} {a : Int} {x k : Nat} (h : ¬ (x = 21 ∧ 3 ≤ k ∧ k ≤ 8)) : gi (form0 G a) x k = gi G x k := by
  unfold form0
  rw [gi_si, if_neg (by omega), gi_si, if_neg (by omega), gi_si, if_neg (by omega), gi_si, if_neg (by omega), gi_si, if_neg (by omega), gi_si, if_neg (by omega)]
theorem form0_LS {G : GS} {c : Nat} {B : Nat → Int} {L i q : Nat} {cd : List Int} {a : Int} (hc : lawC c = true) (ha : a = 0 ∨ a = 1) (h : CW G c B L i q cd) : LSf (form0 G a) c B L i q [] cd 0 0 0 a 0 := by
  have hr := law_rng hc
  obtain ⟨hA, h8, h1, h9, h5, hi⟩ := h
  have hi8 := (atC_hd hA).1
  refine ⟨atC_fr (form0_g (by omega)) (form0_g (by omega)) (fun x k z1 z2 => form0_g (by omega)) hA, by rw [form0_g (by omega)]; exact h8, ⟨h1, ?_, trivial, fun _ z => (by cases z), by rw [form0_g (by omega)]; exact h9, Ar_fr (fun j _ => form0_g (by omega)) h5, by simp only [List.length_nil]; omega, by simp⟩, ⟨?_, ?_, ?_, ?_, ?_⟩, by simp only [List.length_nil]; omega⟩
  all_goals unfold form0
  · rw [gi_si, if_neg (by omega), gi_si, if_neg (by omega), gi_si, if_neg (by omega), gi_si, if_neg (by omega), gi_si, if_pos ⟨rfl, rfl⟩]; exact wr_zero
  · rw [gi_si, if_neg (by omega), gi_si, if_neg (by omega), gi_si, if_neg (by omega), gi_si, if_pos ⟨rfl, rfl⟩]; exact wr_zero
  · rw [gi_si, if_neg (by omega), gi_si, if_neg (by omega), gi_si, if_pos ⟨rfl, rfl⟩]; exact wr_zero
  · rw [gi_si, if_neg (by omega), gi_si, if_pos ⟨rfl, rfl⟩]; exact wr_zero
  · rw [gi_si, if_neg (by omega), gi_si, if_neg (by omega), gi_si, if_neg (by omega), gi_si, if_neg (by omega), gi_si, if_neg (by omega), gi_si, if_pos ⟨rfl, rfl⟩]; exact wr_of (by omega) (by omega)
  · rw [gi_si, if_pos ⟨rfl, rfl⟩]; exact wr_zero
theorem form_num {G H : GS} {c : Nat} {B : Nat → Int} {L i q : Nat} {cd : List Int} {st : Fm} (hc : lawC c = true) (hL : L ≤ 800) (h : CW G c B L i q cd) (hM : MS H B L q 0 st) (hst : st.length ≤ i) : (∃ G' H' i' q' f, f_LawReader_formula G 0 = some G' ∧ f_Model_sumOfC H = some (1, H') ∧ FL G G' c ∧ CW G' c B L i' q' (cd ++ clsF f) ∧ FH H H' ∧ MS H' B L q' 0 (st ++ f) ∧ okV f ∧ typF f [] = some [false] ∧ f.length + i ≤ i') ∨ ∃ G' H' k x, f_LawReader_formula G 0 = some G' ∧ f_Model_sumOfC H = some (0, H') ∧ FBf G G' c k x ∧ BadH H H' k x ∧ (1 ≤ k ∧ k ≤ 3) := by
  have hS := form0_LS (a := 0) hc (Or.inl rfl) h
  have hi8 := (atC_hd h.1).1
  rw [form_0 (Or.inl rfl)]
  have hx : ((i : Nat) : Int) - (i : Nat) = 0 := by omega
  have hn : FU + i - i = FU := by omega
  rcases sumC_S (d := 0) hc hL (by omega) (form0 G 0) H i q [] cd 0 0 0 0 0 st hS hM trivial (by simp) hst rfl (by decide) (by decide) (by decide) (fun y => y.2.1 rfl) with ⟨G2, H2, i2, q2, x1, ⟨t, cd', f, last2, y1, y2, y3, y4, y5, y6, y7, y8, y9, y10, y11⟩, x0⟩ | ⟨H2, k, x, x1, x2, x3, x4⟩
  · left
    have hm : f_LawReader_mayFollow G2 (kC B L q2) = some 0 := by
      rw [mayF y4.2.2.2.1.2.1 y4.2.2.2.1.2.2.2.1 y4.2.2.2.1.2.2.2.2, if_neg]
      obtain ⟨p1, p2, p3, p4⟩ := x0
      omega
    rw [List.append_nil] at y4
    obtain ⟨G', r1, r2, r3⟩ := end_F hc y4 hm (Or.inl rfl) (fun a ha => by have := y7 a ha; omega) (FU + i) i (by unfold FU; omega) y1
    have e := y2 (FU + i) i (by unfold FU; omega) (Nat.le_refl _)
    rw [hx, hn, r1] at e
    rw [y8] at r3
    exact ⟨G', H2, i2, q2, f, e, x1, form0_F.trans (y3.trans r2), r3, y5, y6, y9, y10 [] (by simp), y11⟩
  · right
    obtain ⟨G', r1, r2⟩ := x4 (FU + i) i (by unfold FU; omega) (Nat.le_refl _)
    rw [hx, hn] at r1
    exact ⟨G', H2, k, x, r1, x1, r2.of form0_F, x2, x3⟩
theorem form_cond {G H : GS} {c : Nat} {B : Nat → Int} {L i q : Nat} {cd : List Int} {st : Fm} (hc : lawC c = true) (hL : L ≤ 800) (h : CW G c B L i q cd) (hM : MS H B L q 0 st) (hst : st.length ≤ i) : (∃ G' H' i' q' f, f_LawReader_formula G 1 = some G' ∧ f_Model_any H = some (1, H') ∧ FL G G' c ∧ CW G' c B L i' q' (cd ++ clsF f) ∧ FH H H' ∧ MS H' B L q' 0 (st ++ f) ∧ okV f ∧ typF f [] = some [true] ∧ f.length + i ≤ i') ∨ ∃ G' H' k x, f_LawReader_formula G 1 = some G' ∧ f_Model_any H = some (0, H') ∧ FBf G G' c k x ∧ BadH H H' k x ∧ (1 ≤ k ∧ k ≤ 3) := by
  have hS := form0_LS (a := 1) hc (Or.inr rfl) h
  have hi8 := (atC_hd h.1).1
  rw [form_0 (Or.inr rfl)]
  have hx : ((i : Nat) : Int) - (i : Nat) = 0 := by omega
  have hn : FU + i - i = FU := by omega
  rcases any_S hc hL (form0 G 1) H i q [] cd 1 0 st hS hM trivial (by simp) hst (by decide) (Or.inl rfl) with ⟨G2, H2, i2, q2, nt2, x1, ⟨t, cd', f, last2, y1, y2, y3, y4, y5, y6, y7, y8, y9, y10, y11⟩, x0⟩ | ⟨H2, k, x, x1, x2, x3, x4⟩
  · left
    have hm : f_LawReader_mayFollow G2 (kC B L q2) = some 0 := by
      rw [mayF y4.2.2.2.1.2.1 y4.2.2.2.1.2.2.2.1 y4.2.2.2.1.2.2.2.2, if_neg]
      obtain ⟨⟨p1, p2, p3, p4⟩, p5, p6⟩ := x0
      omega
    rw [List.append_nil] at y4
    obtain ⟨G', r1, r2, r3⟩ := end_F hc y4 hm (Or.inr (by decide)) (fun a ha => y7 a ha) (FU + i) i (by unfold FU; omega) y1
    have e := y2 (FU + i) i (by unfold FU; omega) (Nat.le_refl _)
    rw [hx, hn, r1] at e
    rw [y8] at r3
    exact ⟨G', H2, i2, q2, f, e, x1, form0_F.trans (y3.trans r2), r3, y5, y6, y9, y10 [] (by simp), y11⟩
  · right
    obtain ⟨G', r1, r2⟩ := x4 (FU + i) i (by unfold FU; omega) (Nat.le_refl _)
    rw [hx, hn] at r1
    exact ⟨G', H2, k, x, r1, x1, r2.of form0_F, x2, x3⟩
/-- behind a fault a formula does nothing that counts -/
theorem form_no {G : GS} {c x : Nat} {k a : Int} (hc : lawC c = true) (ha : a = 0 ∨ a = 1) (h8 : gi G 15 8 = k) (h9 : gi G 15 9 = x) (hk : k ≠ 0) (h1 : gp G 21 1 = c) (h0 : 0 ≤ gi G c 9) (h80 : gi G c 9 ≤ 800) : ∃ G', f_LawReader_formula G a = some G' ∧ FBf G G' c k x := by
  have hr := law_rng hc
  rw [form_0 ha]
  obtain ⟨l, hl1, hl2⟩ : ∃ l : List Int, (l.length : Int) = gi G c 9 ∧ Ar G (c + 5) l := by
    refine ⟨(List.range (gi G c 9).toNat).map (fun j => gi G (c + 5) j), by rw [List.length_map, List.length_range]; omega, fun j hj => ?_⟩
    rw [List.length_map, List.length_range] at hj
    rw [List.getD_eq_getElem?_getD, List.getElem?_map, List.getElem?_range hj]
    rfl
  have v3 : gi (form0 G a) 21 3 = (([] : List Int).length : Nat) := by
    unfold form0
    rw [gi_si, if_neg (by omega), gi_si, if_neg (by omega), gi_si, if_neg (by omega), gi_si, if_neg (by omega), gi_si, if_pos ⟨rfl, rfl⟩]; exact wr_zero
  have hS : SB (form0 G a) c [] l := ⟨h1, v3, trivial, fun _ z => (by cases z), by rw [form0_g (by omega)]; exact hl1.symm, Ar_fr (fun j _ => form0_g (by omega)) hl2, by simp only [List.length_nil]; omega, by simp⟩
  obtain ⟨G', r1, r2⟩ := loop_flt hc hS (by rw [form0_g (by omega)]; exact h8) (by rw [form0_g (by omega)]; exact h9) hk 39999 1 1 0
  exact ⟨G', r1, r2.of form0_F⟩
