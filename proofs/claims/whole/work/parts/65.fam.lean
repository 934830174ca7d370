/-! the family, pure -/
def anyB (f : Nat → Bool) : Nat → Bool
  | 0 => false
  | n + 1 => anyB f n || f n
theorem anyB_t {f : Nat → Bool} : ∀ {n : Nat}, anyB f n = true ↔ ∃ i, i < n ∧ f i = true
  | 0 => ⟨fun h => by simp [anyB] at h, fun ⟨i, h, _⟩ => by omega⟩
  | n + 1 => by
    have ih := anyB_t (f := f) (n := n)
    rw [anyB, Bool.or_eq_true, ih]
    constructor
    · rintro (⟨i, h1, h2⟩ | h)
      · exact ⟨i, by omega, h2⟩
      · exact ⟨n, by omega, h⟩
    · rintro ⟨i, h1, h2⟩
      by_cases c : i = n
      · right; rw [← c]; exact h2
      · left; exact ⟨i, by omega, h2⟩
theorem anyB_f {f : Nat → Bool} {n : Nat} : anyB f n = false ↔ ∀ i, i < n → f i = false := by
  constructor
  · intro h i hi
    cases c : f i
    · rfl
    · rw [anyB_t.mpr ⟨i, hi, c⟩] at h; cases h
  · intro h
    cases c : anyB f n
    · rfl
    · obtain ⟨i, h1, h2⟩ := anyB_t.mp c
      rw [h i h1] at h2; cases h2
theorem anyB_cong {f g : Nat → Bool} : ∀ {n : Nat}, (∀ i, i < n → f i = g i) → anyB f n = anyB g n
  | 0, _ => rfl
  | n + 1, h => by rw [anyB, anyB, anyB_cong (fun i hi => h i (by omega)), h n (by omega)]
-- counts and sums (as kit/laws/COUNTS.to-paste gives them)
def fb_ct (p : Nat → Bool) : Nat → Nat
  | 0 => 0
  | n + 1 => fb_ct p n + (if p n then 1 else 0)
theorem fb_ct_succ (p : Nat → Bool) (n : Nat) : fb_ct p (n + 1) = fb_ct p n + (if p n then 1 else 0) := rfl
theorem fb_ct_le (p : Nat → Bool) : ∀ n, fb_ct p n ≤ n
  | 0 => Nat.le_refl _
  | n + 1 => by
    have h := fb_ct_le p n
    rw [fb_ct_succ]
    split <;> omega
theorem fb_ct_step (p : Nat → Bool) (m : Nat) : ∀ n, fb_ct p m ≤ fb_ct p (m + n)
  | 0 => Nat.le_refl _
  | n + 1 => by
    have h := fb_ct_step p m n
    show fb_ct p m ≤ fb_ct p (m + n + 1)
    rw [fb_ct_succ]
    omega
theorem fb_ct_mono (p : Nat → Bool) {m n : Nat} (h : m ≤ n) : fb_ct p m ≤ fb_ct p n := by
  have := fb_ct_step p m (n - m)
  rwa [Nat.add_sub_cancel' h] at this
theorem fb_ct_cong {p q : Nat → Bool} : ∀ {n : Nat}, (∀ k, k < n → p k = q k) → fb_ct p n = fb_ct q n
  | 0, _ => rfl
  | n + 1, h => by
    rw [fb_ct_succ, fb_ct_succ, fb_ct_cong (fun k hk => h k (by omega)), h n (by omega)]
def fb_sm (f : Nat → Nat) : Nat → Nat
  | 0 => 0
  | n + 1 => fb_sm f n + f n
theorem fb_sm_succ (f : Nat → Nat) (n : Nat) : fb_sm f (n + 1) = fb_sm f n + f n := rfl
theorem fb_sm_add (f g : Nat → Nat) : ∀ n, fb_sm (fun k => f k + g k) n = fb_sm f n + fb_sm g n
  | 0 => rfl
  | n + 1 => by
    have h := fb_sm_add f g n
    rw [fb_sm_succ, fb_sm_succ, fb_sm_succ, h]
    omega
theorem fb_sm_le {f g : Nat → Nat} : ∀ {n : Nat}, (∀ k, k < n → f k ≤ g k) → fb_sm f n ≤ fb_sm g n
  | 0, _ => Nat.le_refl _
  | n + 1, h => by
    have h1 := fb_sm_le (n := n) (f := f) (g := g) (fun k hk => h k (by omega))
    have h2 := h n (by omega)
    rw [fb_sm_succ, fb_sm_succ]
    omega
theorem sm_ct (p : Nat → Bool) : ∀ n, fb_sm (fun k => if p k then 1 else 0) n = fb_ct p n
  | 0 => rfl
  | n + 1 => by rw [fb_sm_succ, fb_ct_succ, sm_ct p n]
theorem sm_two (j : Nat) : ∀ n, fb_sm (fun c => if j < c then 2 else 0) n = 2 * (n - 1 - j)
  | 0 => by simp [fb_sm]
  | n + 1 => by
    rw [fb_sm_succ, sm_two j n]
    split <;> omega
/-- how many have it of those up to m, at most m + 1 - j if none below j has it -/
theorem ct_from {p : Nat → Bool} {j : Nat} (h : ∀ i, i < j → p i = false) : ∀ n, fb_ct p n ≤ n - j
  | 0 => by simp [fb_ct]
  | n + 1 => by
    have ih := ct_from h n
    rw [fb_ct_succ]
    by_cases c : n < j
    · rw [h n c]; simp; omega
    · split <;> omega
abbrev Fam : Type := (Nat → Nat → Int) × Int × Int × Nat
def alv (F : Fam) (p : Nat) : Bool := decide (F.1 5 p ≤ F.2.1 ∧ (F.1 7 p = -1 ∨ F.2.1 < F.1 7 p))
def chl (F : Fam) (c p : Nat) : Bool := decide ((F.1 3 c = (p : Int) ∨ F.1 4 c = (p : Int)) ∧ F.1 5 c ≤ F.2.1)
def hl (F : Fam) (p : Nat) : Bool := alv F p || anyB (fun c => if h : p < c ∧ c < F.2.2.2 then chl F c p && hl F c else false) F.2.2.2
termination_by F.2.2.2 - p
decreasing_by omega
theorem hl_eq (F : Fam) (p : Nat) : hl F p = (alv F p || anyB (fun c => decide (p < c) && chl F c p && hl F c) F.2.2.2) := by
  rw [hl]
  congr 1
  refine anyB_cong fun c hc => ?_
  by_cases h : p < c
  · rw [dif_pos ⟨h, hc⟩, decide_eq_true h, Bool.true_and]
  · rw [dif_neg (fun z => h z.1), decide_eq_false h, Bool.false_and, Bool.false_and]
def kid (F : Fam) (p : Nat) (but : Int) (c : Nat) : Bool := decide (p < c) && decide ((c : Int) ≠ but) && chl F c p && hl F c
def son (F : Fam) (p : Nat) (but : Int) (c : Nat) : Bool := kid F p but c && decide (F.1 2 c = 0)
def hasS (F : Fam) (p : Nat) (but : Int) : Bool := anyB (son F p but) F.2.2.2
def stk (F : Fam) (p : Nat) (but : Int) (c : Nat) : Bool := kid F p but c && (decide (F.1 2 c = 0) || !hasS F p but)
def older (F : Fam) (a b : Nat) : Bool := decide (F.1 5 a < F.1 5 b ∨ (F.1 5 a = F.1 5 b ∧ (F.1 6 a < F.1 6 b ∨ (F.1 6 a = F.1 6 b ∧ a < b))))
def cnd (F : Fam) (way : Int) (i o : Nat) : Bool := if way = 0 then (if F.2.2.1 = 0 then older F i o else older F o i) else (if F.2.2.1 = 0 then decide (F.1 5 i ≤ F.1 6 o) else decide (F.1 5 o ≤ F.1 6 i))
def may (F : Fam) (way : Int) (S : Nat → Bool) (i : Nat) : Bool := !anyB (fun o => S o && decide (o ≠ i) && !cnd F way i o) F.2.2.2
def less (x y : Nat × Nat) : Bool := decide (x.1 * y.2 < y.1 * x.2)
def pkS (way : Int) (v : Nat → Nat × Nat) (i : Nat) : Option Nat → Option Nat
  | none => some i
  | some f => if (if way = 2 then less (v f) (v i) else less (v i) (v f)) = true then some i else some f
def pk (F : Fam) (way : Int) (S : Nat → Bool) (v : Nat → Nat × Nat) : Nat → Option Nat
  | 0 => none
  | i + 1 => if (S i && may F way S i) = true then pkS way v i (pk F way S v i) else pk F way S v i
def mF (S : Nat → Bool) (v : Nat → Nat × Nat) : Nat → Nat × Nat
  | 0 => (0, 1)
  | i + 1 => if S i = true then frM (mF S v i) (v i) else mF S v i
def cF (S : Nat → Bool) (v : Nat → Nat × Nat) : Nat → Nat × Nat
  | 0 => (0, 1)
  | i + 1 => if S i = true ∧ (v i).1 ≠ 0 then frC (cF S v i) (v i) else cF S v i
def fin (x : Nat × Nat) (n : Nat) : Nat × Nat := red x.1 (x.2 * n)
def pkV (v : Nat → Nat × Nat) : Option Nat → Nat × Nat
  | none => (0, 1)
  | some f => v f
def kv (F : Fam) (way : Int) (v : Nat → Nat × Nat) (p : Nat) (but : Int) : Nat × Nat :=
  if anyB (stk F p but) F.2.2.2 = true then (if hasS F p but = true ∧ F.2.2.1 ≠ 2 then pkV v (pk F way (stk F p but) v F.2.2.2) else fin (mF (stk F p but) v F.2.2.2) (fb_ct (stk F p but) F.2.2.2)) else (0, 1)
theorem pkB_in {F : Fam} {way : Int} {S : Nat → Bool} {v : Nat → Nat × Nat} {f : Nat} : ∀ n, pk F way S v n = some f → f < n ∧ S f = true ∧ may F way S f = true := by
  intro n
  induction n with
  | zero => intro h; simp [pk] at h
  | succ n ih =>
    intro h
    rw [pk] at h
    by_cases c : (S n && may F way S n) = true
    · rw [if_pos c] at h
      have c' := Bool.and_eq_true_iff.mp c
      cases hp : pk F way S v n with
      | none =>
        rw [hp] at h
        cases h
        exact ⟨by omega, c'⟩
      | some g =>
        rw [hp] at h
        unfold pkS at h
        simp only at h
        generalize (if way = 2 then less (v g) (v n) else less (v n) (v g)) = b at h
        cases b
        · have e : g = f := by simpa using h
          subst e
          exact ⟨by have := (ih hp).1; omega, (ih hp).2⟩
        · have e : n = f := by simpa using h
          subst e
          exact ⟨by omega, c'⟩
    · rw [if_neg c] at h
      have := ih h
      exact ⟨by omega, this.2⟩
theorem pk_some {F : Fam} {way : Int} {S : Nat → Bool} {v : Nat → Nat × Nat} : ∀ n, (∃ i, i < n ∧ S i = true ∧ may F way S i = true) → pk F way S v n ≠ none := by
  intro n
  induction n with
  | zero => rintro ⟨i, h, _⟩; omega
  | succ n ih =>
    rintro ⟨i, h1, h2, h3⟩
    rw [pk]
    by_cases c : (S n && may F way S n) = true
    · rw [if_pos c]
      cases pk F way S v n with
      | none => simp [pkS]
      | some f => unfold pkS; simp only; split <;> split <;> simp
    · rw [if_neg c]
      refine ih ⟨i, ?_, h2, h3⟩
      by_cases z : i = n
      · subst z; rw [h2, h3] at c; exact absurd rfl c
      · omega
theorem pk_cong {F : Fam} {way : Int} {S : Nat → Bool} {v w : Nat → Nat × Nat} : ∀ n, (∀ i, i < n → S i = true → v i = w i) → pk F way S v n = pk F way S w n := by
  intro n
  induction n with
  | zero => intro _; rfl
  | succ n ih =>
    intro h
    have e := ih (fun i hi => h i (by omega))
    rw [pk, pk, e]
    by_cases c : (S n && may F way S n) = true
    · rw [if_pos c, if_pos c]
      have c' := Bool.and_eq_true_iff.mp c
      have hn := h n (by omega) c'.1
      cases hp : pk F way S w n with
      | none => rfl
      | some f =>
        have hf := pkB_in n (e.trans hp)
        unfold pkS
        simp only [hn, h f (by omega) hf.2.1]
    · rw [if_neg c, if_neg c]
theorem mF_cong {S : Nat → Bool} {v w : Nat → Nat × Nat} : ∀ n, (∀ i, i < n → S i = true → v i = w i) → mF S v n = mF S w n := by
  intro n
  induction n with
  | zero => intro _; rfl
  | succ n ih =>
    intro h
    rw [mF, mF, ih (fun i hi => h i (by omega))]
    by_cases c : S n = true
    · rw [if_pos c, if_pos c, h n (by omega) c]
    · rw [if_neg c, if_neg c]
theorem kv_cong {F : Fam} {way : Int} {v w : Nat → Nat × Nat} {p : Nat} {but : Int} (h : ∀ i, i < F.2.2.2 → stk F p but i = true → v i = w i) : kv F way v p but = kv F way w p but := by
  unfold kv
  rw [mF_cong _ h, pk_cong _ h]
  by_cases c : anyB (stk F p but) F.2.2.2 = true
  · rw [if_pos c, if_pos c]
    by_cases d : hasS F p but = true ∧ F.2.2.1 ≠ 2
    · rw [if_pos d, if_pos d]
      cases hp : pk F way (stk F p but) w F.2.2.2 with
      | none => rfl
      | some f =>
        have hf := pkB_in _ hp
        exact h f hf.1 hf.2.1
    · rw [if_neg d, if_neg d]
  · rw [if_neg c, if_neg c]
theorem stk_gt {F : Fam} {p : Nat} {but : Int} {c : Nat} (h : stk F p but c = true) : p < c ∧ (c : Int) ≠ but ∧ chl F c p = true ∧ hl F c = true ∧ (F.1 2 c = 0 ∨ hasS F p but = false) := by
  unfold stk kid at h
  simp only [Bool.and_eq_true, Bool.or_eq_true, decide_eq_true_eq, Bool.not_eq_true'] at h
  exact ⟨h.1.1.1.1, h.1.1.1.2, h.1.1.2, h.1.2, h.2⟩
def vv (F : Fam) (q : Nat) (way : Int) (p : Nat) : Nat × Nat := if alv F p = true then (if p = q then 1 else 0, 1) else kv F way (fun c => if h : p < c ∧ c < F.2.2.2 then vv F q way c else (0, 1)) p (-1)
termination_by F.2.2.2 - p
decreasing_by omega
theorem vv_eq (F : Fam) (q : Nat) (way : Int) (p : Nat) : vv F q way p = if alv F p = true then (if p = q then 1 else 0, 1) else kv F way (vv F q way) p (-1) := by
  rw [vv]
  by_cases c : alv F p = true
  · rw [if_pos c, if_pos c]
  · rw [if_neg c, if_neg c]
    refine kv_cong fun i hi hs => ?_
    rw [dif_pos ⟨(stk_gt hs).1, hi⟩]
/-- what is known of the people -/
def FOK (F : Fam) : Prop := F.2.2.2 ≤ 32 ∧ (F.2.2.1 = 0 ∨ F.2.2.1 = 1 ∨ F.2.2.1 = 2) ∧ ∀ p : Nat, p < F.2.2.2 → (F.1 2 p = 0 ∨ F.1 2 p = 1) ∧ (F.1 3 p = -1 ∨ (0 ≤ F.1 3 p ∧ F.1 3 p < p)) ∧ (F.1 4 p = -1 ∨ (0 ≤ F.1 4 p ∧ F.1 4 p < p)) ∧ F.1 5 p ≤ F.1 6 p
/-! how far the numbers go -/
def Gd (x : Nat × Nat) : Prop := Red x ∧ x.1 ≤ x.2
theorem Gd_01 : Gd (0, 1) := ⟨⟨Nat.one_pos, Nat.coprime_one_right 0⟩, Nat.zero_le _⟩
theorem mF_g {S : Nat → Bool} {v : Nat → Nat × Nat} : ∀ n, (∀ i, i < n → S i = true → Gd (v i)) → Red (mF S v n) ∧ (mF S v n).1 ≤ fb_ct S n * (mF S v n).2 ∧ ∀ M, (∀ i, i < n → S i = true → (v i).2 ∣ M) → (mF S v n).2 ∣ M := by
  intro n
  induction n with
  | zero => intro _; exact ⟨Gd_01.1, Nat.zero_le _, fun M _ => ⟨M, by simp [mF]⟩⟩
  | succ n ih =>
    intro h
    obtain ⟨h1, h2, h3⟩ := ih (fun i hi => h i (by omega))
    rw [mF, fb_ct_succ]
    by_cases c : S n = true
    · have hn := h n (by omega) c
      rw [if_pos c, if_pos c]
      exact ⟨(frM_s h1.1 hn.1.1).1, (frM_b h1.1 hn.1.1 h2 hn.2).2, fun M hM => frM_d h1.1 hn.1.1 (h3 M (fun i hi => hM i (by omega))) (hM n (by omega) c)⟩
    · rw [if_neg c, if_neg c, Nat.add_zero]
      exact ⟨h1, h2, fun M hM => h3 M (fun i hi => hM i (by omega))⟩
theorem cF_g {S : Nat → Bool} {v : Nat → Nat × Nat} : ∀ n, (∀ i, i < n → S i = true → Gd (v i)) → 0 < (cF S v n).2 ∧ (cF S v n).1 ≤ fb_ct S n * (cF S v n).2 ∧ (∀ M, (∀ i, i < n → S i = true → (v i).2 ∣ M) → (cF S v n).2 ∣ M) ∧ (mF S v n).1 * (cF S v n).2 = (cF S v n).1 * (mF S v n).2 := by
  intro n
  induction n with
  | zero => intro _; exact ⟨Nat.one_pos, Nat.zero_le _, fun M _ => ⟨M, by simp [cF]⟩, rfl⟩
  | succ n ih =>
    intro h
    obtain ⟨h1, h2, h3, h4⟩ := ih (fun i hi => h i (by omega))
    obtain ⟨m1, -, -⟩ := mF_g n (fun i hi => h i (by omega))
    rw [mF, cF, fb_ct_succ]
    by_cases c : S n = true
    · have hn := h n (by omega) c
      rw [if_pos c, if_pos c]
      by_cases d : (v n).1 = 0
      · rw [if_neg (fun z => z.2 d)]
        refine ⟨h1, ?_, fun M hM => h3 M (fun i hi => hM i (by omega)), fr_zero m1.1 hn.1.1 d h4⟩
        have : fb_ct S n * (cF S v n).2 ≤ (fb_ct S n + 1) * (cF S v n).2 := Nat.mul_le_mul_right _ (by omega)
        omega
      · rw [if_pos ⟨c, d⟩]
        exact ⟨(frC_d (M := (cF S v n).2 * (v n).2) h1 hn.1.1 ⟨_, rfl⟩ ⟨(cF S v n).2, Nat.mul_comm _ _⟩).2, (frC_b h1 hn.1.1 h2 hn.2).1, fun M hM => (frC_d h1 hn.1.1 (h3 M (fun i hi => hM i (by omega))) (hM n (by omega) c)).1, fr_same m1.1 h1 hn.1.1 h4⟩
    · rw [if_neg c, if_neg c, if_neg (fun z => c z.1), Nat.add_zero]
      exact ⟨h1, h2, fun M hM => h3 M (fun i hi => hM i (by omega)), h4⟩
theorem fin_same {S : Nat → Bool} {v : Nat → Nat × Nat} {n k : Nat} (h : ∀ i, i < n → S i = true → Gd (v i)) (hk : 0 < k) : fin (mF S v n) k = fin (cF S v n) k := by
  obtain ⟨m1, -, -⟩ := mF_g n h
  obtain ⟨c1, -, -, c4⟩ := cF_g n h
  refine red_eq (Nat.mul_pos m1.1 hk) (Nat.mul_pos c1 hk) ?_
  rw [← Nat.mul_assoc, c4, Nat.mul_assoc]
theorem fin_g {x : Nat × Nat} {k M : Nat} (h1 : 0 < x.2) (h2 : x.1 ≤ k * x.2) (hk : 0 < k) (hM : x.2 ∣ M) : Gd (fin x k) ∧ (fin x k).2 ∣ M * k := by
  have hp := Nat.mul_pos h1 hk
  obtain ⟨r1, r2⟩ := red_s (a := x.1) hp
  refine ⟨⟨r1, ?_⟩, ?_⟩
  · refine Nat.le_of_mul_le_mul_right ?_ hp
    show (red x.1 (x.2 * k)).1 * (x.2 * k) ≤ (red x.1 (x.2 * k)).2 * (x.2 * k)
    rw [← r2, Nat.mul_comm x.1]
    exact Nat.mul_le_mul_left _ (by rw [Nat.mul_comm x.2]; exact h2)
  · have a1 : (fin x k).2 ∣ x.2 * k := Nat.div_dvd_of_dvd (Nat.gcd_dvd_right _ _)
    exact Nat.dvd_trans a1 (Nat.mul_dvd_mul_right hM k)
