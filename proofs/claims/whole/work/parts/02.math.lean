-- the pure mathematics (masks as naturals, an order as a relation lt), free of any printed name.
-- Sets: Nat masks, bit v = element v, all bits below 10.
def cm_pc : Nat → Nat → Nat
  | 0, _ => 0
  | k + 1, s => cm_pc k s + (s.testBit k).toNat

noncomputable def cm_bm : Nat → (Nat → Prop) → Nat
  | 0, _ => 0
  | k + 1, p => cm_bm k p ||| (@ite _ (p k) (Classical.propDecidable _) (2 ^ k) 0)

def cm_Sub (s t : Nat) : Prop := ∀ v, s.testBit v = true → t.testBit v = true
def cm_Anti (lt : Nat → Nat → Prop) (s : Nat) : Prop := ∀ u v, s.testBit u = true → s.testBit v = true → ¬ lt u v
def cm_Chn (lt : Nat → Nat → Prop) (s : Nat) : Prop := ∀ u v, s.testBit u = true → s.testBit v = true → u ≠ v → lt u v ∨ lt v u
def cm_Wd (lt : Nat → Nat → Prop) (S w : Nat) : Prop :=
  (∃ A, cm_Sub A S ∧ cm_Anti lt A ∧ cm_pc 10 A = w) ∧ ∀ A, cm_Sub A S → cm_Anti lt A → cm_pc 10 A ≤ w
def cm_Lc (lt : Nat → Nat → Prop) (S w : Nat) : Prop :=
  (∃ A, cm_Sub A S ∧ cm_Chn lt A ∧ cm_pc 10 A = w) ∧ ∀ A, cm_Sub A S → cm_Chn lt A → cm_pc 10 A ≤ w
def cm_Lg (lt : Nat → Nat → Prop) (S w A : Nat) : Prop := cm_Sub A S ∧ cm_Anti lt A ∧ cm_pc 10 A = w
noncomputable def cm_mn (lt : Nat → Nat → Prop) (S : Nat) : Nat :=
  cm_bm 10 (fun v => S.testBit v = true ∧ ∀ u, S.testBit u = true → ¬ lt u v)
noncomputable def cm_df (s t : Nat) : Nat := cm_bm 10 (fun v => s.testBit v = true ∧ ¬ t.testBit v = true)
def cm_PP (lt : Nat → Nat → Prop) : Nat → Nat → Nat → Prop
  | 0, _, s => s = 0
  | k + 1, m, s => ∃ t, t < m ∧ t ≠ 0 ∧ cm_Sub t s ∧ cm_Chn lt t ∧ cm_PP lt k t (cm_df s t)

theorem cm_bm_bit (k : Nat) (p : Nat → Prop) (v : Nat) : (cm_bm k p).testBit v = true ↔ v < k ∧ p v := by
  induction k with
  | zero => simp [cm_bm]
  | succ k ih =>
    unfold cm_bm
    rw [Nat.testBit_or, Bool.or_eq_true, ih]
    by_cases hp : p k
    · rw [if_pos hp, Nat.testBit_two_pow, decide_eq_true_eq]
      constructor
      · rintro (⟨h1, h2⟩ | h)
        · exact ⟨by omega, h2⟩
        · subst h; exact ⟨by omega, hp⟩
      · rintro ⟨h1, h2⟩
        by_cases e : v = k
        · right; omega
        · left; exact ⟨by omega, h2⟩
    · rw [if_neg hp]
      simp only [Nat.zero_testBit, Bool.false_eq_true, or_false]
      constructor
      · rintro ⟨h1, h2⟩; exact ⟨by omega, h2⟩
      · rintro ⟨h1, h2⟩
        by_cases e : v = k
        · subst e; exact absurd h2 hp
        · exact ⟨by omega, h2⟩

theorem cm_lt {s : Nat} (h : ∀ v, s.testBit v = true → v < 10) : s < 1024 := by
  have := Nat.lt_pow_two_of_testBit (n := 10) s (fun i hi => by
    cases e : s.testBit i with
    | false => rfl
    | true => have := h i e; omega)
  simpa using this

theorem cm_hi {s v : Nat} (hs : s < 1024) (h : s.testBit v = true) : v < 10 := by
  apply Classical.byContradiction
  intro hv
  have h3 : (2 : Nat) ^ 10 ≤ 2 ^ v := Nat.pow_le_pow_right (by decide) (by omega)
  rw [show (2 : Nat) ^ 10 = 1024 from rfl] at h3
  have h2 : s < 2 ^ v := Nat.lt_of_lt_of_le hs h3
  rw [Nat.testBit_lt_two_pow h2] at h
  cases h

theorem cm_ext {s t : Nat} (h : ∀ v, s.testBit v = true ↔ t.testBit v = true) : s = t := by
  apply Nat.eq_of_testBit_eq
  intro i
  have := h i
  cases e : s.testBit i <;> cases f : t.testBit i <;> simp_all

theorem cm_bm_lt (p : Nat → Prop) : cm_bm 10 p < 1024 := cm_lt (fun v h => ((cm_bm_bit 10 p v).mp h).1)

theorem cm_df_bit {s t v : Nat} (hs : s < 1024) : (cm_df s t).testBit v = true ↔ s.testBit v = true ∧ ¬ t.testBit v = true := by
  unfold cm_df
  rw [cm_bm_bit]
  exact ⟨fun h => h.2, fun h => ⟨cm_hi hs h.1, h⟩⟩

theorem cm_df_lt (s t : Nat) : cm_df s t < 1024 := cm_bm_lt _
theorem cm_mn_bit {lt : Nat → Nat → Prop} {S v : Nat} (hs : S < 1024) :
    (cm_mn lt S).testBit v = true ↔ S.testBit v = true ∧ ∀ u, S.testBit u = true → ¬ lt u v := by
  unfold cm_mn
  rw [cm_bm_bit]
  exact ⟨fun h => h.2, fun h => ⟨cm_hi hs h.1, h⟩⟩

theorem cm_or_bit {s t v : Nat} : (s ||| t).testBit v = true ↔ s.testBit v = true ∨ t.testBit v = true := by
  rw [Nat.testBit_or, Bool.or_eq_true]
theorem cm_and_bit {s t v : Nat} : (s &&& t).testBit v = true ↔ s.testBit v = true ∧ t.testBit v = true := by
  rw [Nat.testBit_and, Bool.and_eq_true]
theorem cm_one_bit {x v : Nat} : (2 ^ x).testBit v = true ↔ x = v := by
  rw [Nat.testBit_two_pow, decide_eq_true_eq]
theorem cm_sub_lt {s t : Nat} (h : cm_Sub s t) (ht : t < 1024) : s < 1024 := cm_lt (fun v hv => cm_hi ht (h v hv))

theorem cm_pc_mono (k : Nat) {s t : Nat} (h : cm_Sub s t) : cm_pc k s ≤ cm_pc k t := by
  induction k with
  | zero => simp [cm_pc]
  | succ k ih =>
    unfold cm_pc
    have := h k
    cases e : s.testBit k <;> cases f : t.testBit k <;> simp_all <;> omega

theorem cm_pc_or (k s t : Nat) : cm_pc k (s ||| t) + cm_pc k (s &&& t) = cm_pc k s + cm_pc k t := by
  induction k with
  | zero => simp [cm_pc]
  | succ k ih =>
    unfold cm_pc
    rw [Nat.testBit_or, Nat.testBit_and]
    cases e : s.testBit k <;> cases f : t.testBit k <;> simp <;> omega

theorem cm_pc_le (k s : Nat) : cm_pc k s ≤ k := by
  induction k with
  | zero => simp [cm_pc]
  | succ k ih =>
    unfold cm_pc
    cases e : s.testBit k <;> simp <;> omega

theorem cm_pc_0 (k : Nat) {s : Nat} (h : ∀ v, ¬ s.testBit v = true) : cm_pc k s = 0 := by
  induction k with
  | zero => simp [cm_pc]
  | succ k ih =>
    unfold cm_pc
    have := h k
    cases e : s.testBit k <;> simp_all

theorem cm_pc_le1 (k : Nat) {s : Nat} (h : ∀ u v, s.testBit u = true → s.testBit v = true → u = v) : cm_pc k s ≤ 1 := by
  induction k with
  | zero => simp [cm_pc]
  | succ k ih =>
    unfold cm_pc
    cases e : s.testBit k with
    | false => simpa using ih
    | true =>
      have : ∀ j, j ≤ k → cm_pc j s = 0 := by
        intro j
        induction j with
        | zero => intro _; simp [cm_pc]
        | succ j ihj =>
          intro hj
          unfold cm_pc
          rw [ihj (by omega)]
          cases f : s.testBit j with
          | false => simp
          | true => have := h j k f e; omega
      rw [this k (Nat.le_refl k)]
      simp

theorem cm_pc_eq (k : Nat) {s t : Nat} (h : cm_Sub s t) (he : cm_pc k t ≤ cm_pc k s) :
    ∀ v, v < k → t.testBit v = true → s.testBit v = true := by
  induction k with
  | zero => intro v hv; omega
  | succ k ih =>
    unfold cm_pc at he
    have hm := cm_pc_mono k h
    have hk := h k
    intro v hv ht
    have hle : (s.testBit k).toNat ≤ (t.testBit k).toNat := by
      cases e : s.testBit k with
      | false => exact Nat.zero_le _
      | true => rw [hk e]; exact Nat.le_refl _
    by_cases hvk : v = k
    · subst hvk
      cases e : s.testBit v with
      | true => rfl
      | false =>
        rw [e, ht] at he
        have h1 : cm_pc v t + 1 ≤ cm_pc v s := he
        omega
    · exact ih (by omega) v (by omega) ht

theorem cm_same {s t : Nat} (h : cm_Sub s t) (ht : t < 1024) (he : cm_pc 10 t ≤ cm_pc 10 s) : s = t :=
  cm_ext (fun v => ⟨h v, fun hv => cm_pc_eq 10 h he v (cm_hi ht hv) hv⟩)

theorem cm_pc_one (k x : Nat) (hx : x < k) : cm_pc k (2 ^ x) = 1 := by
  have h1 : cm_pc k (2 ^ x) ≤ 1 := cm_pc_le1 k (fun u v hu hv => by
    rw [cm_one_bit] at hu hv; omega)
  have h2 : ∀ j, x < j → 1 ≤ cm_pc j (2 ^ x) := by
    intro j
    induction j with
    | zero => intro h; omega
    | succ j ih =>
      intro h
      unfold cm_pc
      by_cases e : x = j
      · have : (2 ^ x).testBit j = true := cm_one_bit.mpr e
        rw [this]; simp
      · have := ih (by omega); omega
  have := h2 k hx
  omega

theorem cm_pc_add {s x : Nat} (hx : x < 10) (h : ¬ s.testBit x = true) : cm_pc 10 (s ||| 2 ^ x) = cm_pc 10 s + 1 := by
  have h1 := cm_pc_or 10 s (2 ^ x)
  have h2 : cm_pc 10 (s &&& 2 ^ x) = 0 := cm_pc_0 10 (fun v hv => by
    rw [cm_and_bit, cm_one_bit] at hv
    rw [← hv.2] at hv; exact h hv.1)
  rw [h2, cm_pc_one 10 x hx] at h1
  omega

theorem cm_pc_df {s t : Nat} (hs : s < 1024) : cm_pc 10 s = cm_pc 10 (cm_df s t) + cm_pc 10 (s &&& t) := by
  have h1 := cm_pc_or 10 (cm_df s t) (s &&& t)
  have h2 : cm_df s t ||| (s &&& t) = s := cm_ext (fun v => by
    rw [cm_or_bit, cm_df_bit hs, cm_and_bit]
    constructor
    · rintro (h | h)
      · exact h.1
      · exact h.1
    · intro h
      by_cases e : t.testBit v = true
      · exact Or.inr ⟨h, e⟩
      · exact Or.inl ⟨h, e⟩)
  have h3 : cm_pc 10 (cm_df s t &&& (s &&& t)) = 0 := cm_pc_0 10 (fun v hv => by
    rw [cm_and_bit, cm_df_bit hs, cm_and_bit] at hv
    exact hv.1.2 hv.2.2)
  rw [h2, h3] at h1
  omega
