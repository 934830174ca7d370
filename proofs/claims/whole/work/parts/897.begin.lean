/-! both sides begin -/
theorem begin_C {G : GS} (hT : InvT G) : ∃ G', f_Text_scan G = some G' ∧ atC G' (TB G) (gi G 15 1).toNat 0 (rN isW (TB G) (gi G 15 1).toNat 0) ∧ (∀ x k, ¬ (18 ≤ x ∧ x ≤ 20) → ¬ (x = 15 ∧ (k = 1 ∨ (6 ≤ k ∧ k ≤ 9))) → gi G' x k = gi G x k) ∧ (∀ x k, gp G' x k = gp G x k) ∧ gi G' 15 1 = 0 ∧ gi G' 15 8 = 0 ∧ gi G' 15 9 = -1 := by
  obtain ⟨G', r1, ⟨G0, p1, p2, p3, p4, p5, p6⟩, r3, r4, r5, r6, r7, r8⟩ := scan_C hT
  have hL := hT.2.1
  have hr := rN_b isW (TB G) (gi G 15 1).toNat (gi G 15 1).toNat 0 (by omega) (by omega)
  have hid := rW_idem (B := TB G) (L := (gi G 15 1).toNat) (gi G 15 1).toNat 0 (by omega)
  have hlen := (tks_len (TB G) (gi G 15 1).toNat (gi G 15 1).toNat 0).1
  refine ⟨G', r1, ⟨⟨tks (TB G) (gi G 15 1).toNat (gi G 15 1).toNat 0, by omega, by rw [p1, Nat.zero_add], fun j hj => by have := p2 j hj; rw [Nat.zero_add] at this; exact this, ?_⟩, by rw [r6]; rfl, hr.2, hid⟩, r3, r4, r5, r7, r8⟩
  show tks (TB G) (gi G 15 1).toNat (gi G 15 1).toNat 0 = _
  rw [tks_sk _ 0 (by omega) (by omega), tks_sk _ (rN isW (TB G) (gi G 15 1).toNat 0) (by omega) hr.2, hid]
def Mb (G G' : GS) : Prop := (∀ c k, ¬ (c = 81 ∧ ((41 ≤ k ∧ k ≤ 42) ∨ (44 ≤ k ∧ k ≤ 48) ∨ k = 53)) → gi G' c k = gi G c k) ∧ ∀ c k, gp G' c k = gp G c k
theorem begin_M {G : GS} {B : Nat → Int} {L : Nat} {f : Int} (hf : f = 0 ∨ f = 1) (hT : TxM G B L) : ∃ G', f_Model_begins G f = some G' ∧ Mb G G' ∧ atM G' f B L (rN isW B L 0) ∧ gi G' 81 48 = 0 ∧ gi G' 81 41 = 0 ∧ gi G' 81 42 = 0 := by
  have e : ∀ c k, ¬ (c = 81 ∧ (k = 53 ∨ k = 48 ∨ k = 44 ∨ k = 41 ∨ k = 42)) → gi (si (si (si (si (si G 81 53 f) 81 48 0) 81 44 0) 81 41 0) 81 42 0) c k = gi G c k := fun c k z => by rw [gi_si, if_neg (by omega), gi_si, if_neg (by omega), gi_si, if_neg (by omega), gi_si, if_neg (by omega), gi_si, if_neg (by omega)]
  have v53 : gi (si (si (si (si (si G 81 53 f) 81 48 0) 81 44 0) 81 41 0) 81 42 0) 81 53 = f := by rw [gi_si, if_neg (by omega), gi_si, if_neg (by omega), gi_si, if_neg (by omega), gi_si, if_neg (by omega), gi_si, if_pos ⟨rfl, rfl⟩]; exact wr_of (by omega) (by omega)
  have v48 : gi (si (si (si (si (si G 81 53 f) 81 48 0) 81 44 0) 81 41 0) 81 42 0) 81 48 = 0 := by rw [gi_si, if_neg (by omega), gi_si, if_neg (by omega), gi_si, if_neg (by omega), gi_si, if_pos ⟨rfl, rfl⟩]; exact wr_zero
  have v44 : gi (si (si (si (si (si G 81 53 f) 81 48 0) 81 44 0) 81 41 0) 81 42 0) 81 44 = ((0 : Nat) : Int) := by rw [gi_si, if_neg (by omega), gi_si, if_neg (by omega), gi_si, if_pos ⟨rfl, rfl⟩]; exact wr_zero
  have v41 : gi (si (si (si (si (si G 81 53 f) 81 48 0) 81 44 0) 81 41 0) 81 42 0) 81 41 = 0 := by rw [gi_si, if_neg (by omega), gi_si, if_pos ⟨rfl, rfl⟩]; exact wr_zero
  have v42 : gi (si (si (si (si (si G 81 53 f) 81 48 0) 81 44 0) 81 41 0) 81 42 0) 81 42 = 0 := by rw [gi_si, if_pos ⟨rfl, rfl⟩]; exact wr_zero
  have e0 : f_Model_begins G f = (f_Model_next0 (si (si (si (si (si G 81 53 f) 81 48 0) 81 44 0) 81 41 0) 81 42 0)).bind fun q1 => some q1 := by
    rw [f_Model_begins, gd, if_pos hf]
    simp only [wG]
  rw [e0]
  have hp : ∀ c k, gp (si (si (si (si (si G 81 53 f) 81 48 0) 81 44 0) 81 41 0) 81 42 0) c k = gp G c k := fun _ _ => rfl
  generalize si (si (si (si (si G 81 53 f) 81 48 0) 81 44 0) 81 41 0) 81 42 0 = G1 at *
  have hT1 : TxM G1 B L := ⟨by rw [e 81 43 (by omega)]; exact hT.1, hT.2.1, fun k => by rw [e 117 k (by omega)]; exact hT.2.2.1 k, hT.2.2.2⟩
  have hL := hT.2.1
  obtain ⟨G', r1, r2, r3⟩ := nx0 L 0 FU G1 hT1 (by omega) (by unfold FU; omega) (by omega) v44
  rw [v53] at r3
  have r1' : f_Model_next0 G1 = some G' := r1
  refine ⟨G', by rw [r1']; rfl, ⟨fun c k z => by rw [r2.1 c k (by omega), e c k (by omega)], fun c k => (r2.2 c k).trans (hp c k)⟩, atM_NX r3 (by rw [r2.1 81 53 (by omega)]; exact v53) (hT1.mx r2), by rw [r2.1 81 48 (by omega)]; exact v48, by rw [r2.1 81 41 (by omega)]; exact v41, by rw [r2.1 81 42 (by omega)]; exact v42⟩
/-- the reference's text in a store that keeps the invariant -/
theorem tx_of {G : GS} (hE : InvE G) (hT : InvT G) : TxM G (TB G) (gi G 15 1).toNat := ⟨by rw [(eqS_in hE).2.2.2.2.1]; have := hT.1; omega, by have := hT.2.1; omega, fun k => (hT.2.2.1 k).2.2, fun k => ⟨(hT.2.2.1 k).1, (hT.2.2.1 k).2.1⟩⟩
theorem TxM.fr {G G' : GS} {B : Nat → Int} {L : Nat} (h1 : gi G' 81 43 = gi G 81 43) (h2 : ∀ k, gi G' 117 k = gi G 117 k) (h : TxM G B L) : TxM G' B L := ⟨by rw [h1]; exact h.1, h.2.1, fun k => by rw [h2]; exact h.2.2.1 k, h.2.2.2⟩
