-- the greatest number of elements of the sets with G, found so far among those with D
def cm_Wg (G D : Nat → Prop) (b : Nat) : Prop := (∃ A, G A ∧ cm_pc 10 A = b) ∧ ∀ A, D A → G A → cm_pc 10 A ≤ b
theorem cm_Wg_no {G D D' : Nat → Prop} {b : Nat} (p : Nat) (h : cm_Wg G D b) (hD : ∀ A, D' A → G A → D A ∨ A = p) (hp : G p → cm_pc 10 p ≤ b) : cm_Wg G D' b := by
  refine ⟨h.1, fun A hA hG => ?_⟩
  rcases hD A hA hG with g | g
  · exact h.2 A g hG
  · subst g; exact hp hG
theorem cm_Wg_yes {G D D' : Nat → Prop} {b : Nat} (p : Nat) (h : cm_Wg G D b) (hD : ∀ A, D' A → G A → D A ∨ A = p) (hp : G p) (hb : b ≤ cm_pc 10 p) : cm_Wg G D' (cm_pc 10 p) := by
  refine ⟨⟨p, hp, rfl⟩, fun A hA hG => ?_⟩
  rcases hD A hA hG with g | g
  · exact Nat.le_trans (h.2 A g hG) hb
  · subst g; exact Nat.le_refl _
theorem cm_Wg_un {G D D' : Nat → Prop} {b b' : Nat} (h : cm_Wg G D b) (h' : cm_Wg G D' b') (hD : ∀ A, G A → D A) (hD' : ∀ A, G A → D' A) : b = b' := by
  obtain ⟨⟨A, hA, ea⟩, ub⟩ := h
  obtain ⟨⟨A', hA', ea'⟩, ub'⟩ := h'
  have h1 := ub A' (hD A' hA') hA'
  have h2 := ub' A (hD' A hA) hA
  omega
theorem cm_pc00 : cm_pc 10 0 = 0 := cm_pc_0 10 (fun v hv => by simp at hv)
theorem cm_Wg_0 {G D : Nat → Prop} (h0 : G 0) (hD : ∀ A, ¬ D A) : cm_Wg G D 0 :=
  ⟨⟨0, h0, cm_pc00⟩, fun A hA => absurd hA (hD A)⟩
theorem cm_Sub0 (s : Nat) : cm_Sub 0 s := fun v hv => by simp at hv
theorem cm_Anti0 (lt : Nat → Nat → Prop) : cm_Anti lt 0 := fun u v hu => by simp at hu
theorem cm_Chn0 (lt : Nat → Nat → Prop) : cm_Chn lt 0 := fun u v hu => by simp at hu
theorem cm_Wd_of {lt : Nat → Nat → Prop} {S b : Nat} {D : Nat → Prop} (h : cm_Wg (fun A => cm_Sub A S ∧ cm_Anti lt A) D b) (hD : ∀ A, cm_Sub A S → D A) : cm_Wd lt S b := by
  obtain ⟨⟨A, hA, ea⟩, ub⟩ := h
  exact ⟨⟨A, hA.1, hA.2, ea⟩, fun A h1 h2 => ub A (hD A h1) ⟨h1, h2⟩⟩
theorem cm_Lc_of {lt : Nat → Nat → Prop} {S b : Nat} {D : Nat → Prop} (h : cm_Wg (fun A => cm_Sub A S ∧ cm_Chn lt A) D b) (hD : ∀ A, cm_Sub A S → D A) : cm_Lc lt S b := by
  obtain ⟨⟨A, hA, ea⟩, ub⟩ := h
  exact ⟨⟨A, hA.1, hA.2, ea⟩, fun A h1 h2 => ub A (hD A h1) ⟨h1, h2⟩⟩
theorem cm_Wd_un {lt : Nat → Nat → Prop} {S b b' : Nat} (h : cm_Wd lt S b) (h' : cm_Wd lt S b') : b = b' := by
  obtain ⟨⟨A, h1, h2, ea⟩, ub⟩ := h
  obtain ⟨⟨A', h1', h2', ea'⟩, ub'⟩ := h'
  have g1 := ub A' h1' h2'
  have g2 := ub' A h1 h2
  omega
theorem cm_Lc_un {lt : Nat → Nat → Prop} {S b b' : Nat} (h : cm_Lc lt S b) (h' : cm_Lc lt S b') : b = b' := by
  obtain ⟨⟨A, h1, h2, ea⟩, ub⟩ := h
  obtain ⟨⟨A', h1', h2', ea'⟩, ub'⟩ := h'
  have g1 := ub A' h1' h2'
  have g2 := ub' A h1 h2
  omega
theorem cm_Wd_le {lt : Nat → Nat → Prop} {S b : Nat} (h : cm_Wd lt S b) : b ≤ 10 := by
  obtain ⟨⟨A, h1, h2, ea⟩, ub⟩ := h
  have := cm_pc_le 10 A
  omega
theorem cm_Wg_le {G D : Nat → Prop} {b : Nat} (h : cm_Wg G D b) : b ≤ 10 := by
  obtain ⟨⟨A, h1, ea⟩, ub⟩ := h
  have := cm_pc_le 10 A
  omega

-- the union of the largest ones
def cm_Un (G : Nat → Prop) (i b U : Nat) : Prop :=
  cm_Wg G (fun A => A < i) b ∧ ∀ v, U.testBit v = true ↔ ∃ A, A < i ∧ G A ∧ cm_pc 10 A = b ∧ A.testBit v = true
theorem cm_Un_0 {G : Nat → Prop} (h0 : G 0) : cm_Un G 0 0 0 := by
  refine ⟨cm_Wg_0 h0 (fun A => Nat.not_lt_zero A), fun v => ⟨fun h => by simp at h, ?_⟩⟩
  rintro ⟨A, hA, _⟩
  exact absurd hA (Nat.not_lt_zero A)
theorem cm_Un_no {G : Nat → Prop} {i b U : Nat} (h : cm_Un G i b U) (hi : ¬ (b ≤ cm_pc 10 i ∧ G i)) : cm_Un G (i + 1) b U := by
  refine ⟨cm_Wg_no i h.1 (fun A hA _ => by have : A < i + 1 := hA; show A < i ∨ A = i; omega) (fun hg => ?_), fun v => ?_⟩
  · have : ¬ b ≤ cm_pc 10 i := fun z => hi ⟨z, hg⟩
    omega
  · rw [h.2 v]
    constructor
    · rintro ⟨A, h1, h2⟩
      exact ⟨A, by omega, h2⟩
    · rintro ⟨A, h1, h2, h3, h4⟩
      by_cases e : A = i
      · subst e
        exact absurd ⟨by omega, h2⟩ hi
      · exact ⟨A, by omega, h2, h3, h4⟩
theorem cm_Un_gt {G : Nat → Prop} {i b U : Nat} (h : cm_Un G i b U) (hg : G i) (hi : b < cm_pc 10 i) : cm_Un G (i + 1) (cm_pc 10 i) i := by
  refine ⟨cm_Wg_yes i h.1 (fun A hA _ => by have : A < i + 1 := hA; show A < i ∨ A = i; omega) hg (by omega), fun v => ?_⟩
  constructor
  · intro hv
    exact ⟨i, by omega, hg, rfl, hv⟩
  · rintro ⟨A, h1, h2, h3, h4⟩
    by_cases e : A = i
    · subst e; exact h4
    · have := h.1.2 A (show A < i by omega) h2
      omega
theorem cm_Un_eq {G : Nat → Prop} {i b U : Nat} (h : cm_Un G i b U) (hg : G i) (hi : b = cm_pc 10 i) : cm_Un G (i + 1) (cm_pc 10 i) (U ||| i) := by
  refine ⟨cm_Wg_yes i h.1 (fun A hA _ => by have : A < i + 1 := hA; show A < i ∨ A = i; omega) hg (by omega), fun v => ?_⟩
  rw [cm_or_bit, h.2 v]
  constructor
  · rintro (⟨A, h1, h2, h3, h4⟩ | hv)
    · exact ⟨A, by omega, h2, by omega, h4⟩
    · exact ⟨i, by omega, hg, rfl, hv⟩
  · rintro ⟨A, h1, h2, h3, h4⟩
    by_cases e : A = i
    · subst e; exact Or.inr h4
    · exact Or.inl ⟨A, by omega, h2, by omega, h4⟩

-- the table of the fewest chains
def cm_ut (T : Nat → Nat) (k x : Nat) : Nat → Nat := fun j => if j = k then x else T j
def cm_Lo (lt : Nat → Nat → Prop) (S : Nat) (T : Nat → Nat) : Prop := ∀ s, s ≤ S → T s ≤ 100 ∧ ∀ A, cm_Sub A s → cm_Anti lt A → cm_pc 10 A ≤ T s
def cm_Hi (lt : Nat → Nat → Prop) (S m : Nat) (T : Nat → Nat) : Prop := ∀ k s, cm_Sub s S → cm_PP lt k m s → T s ≤ k
def cm_In (lt : Nat → Nat → Prop) (S m : Nat) (T0 : Nat → Nat) (r : Nat) (T : Nat → Nat) : Prop :=
  (∀ s, s ≤ S → T s ≤ T0 s) ∧ (∀ s, s ≤ S → s &&& m = 0 → T s = T0 s) ∧
  (∀ s, s < r → cm_Sub s S → s &&& m = 0 → T (s ||| m) ≤ T0 s + 1) ∧ cm_Lo lt S T
def cm_T0 : Nat → Nat := fun s => if s = 0 then 0 else 100
theorem cm_Lo_i (lt : Nat → Nat → Prop) (S : Nat) : cm_Lo lt S cm_T0 := by
  intro s hs
  unfold cm_T0
  by_cases e : s = 0
  · rw [if_pos e]
    refine ⟨by omega, fun A hA _ => ?_⟩
    subst e
    rw [cm_pc_0 10 (fun v hv => by have := hA v hv; simp at this)]
    exact Nat.le_refl 0
  · rw [if_neg e]
    refine ⟨by omega, fun A hA _ => ?_⟩
    have := cm_pc_le 10 A
    omega
theorem cm_Hi_i (lt : Nat → Nat → Prop) (S : Nat) : cm_Hi lt S 1 cm_T0 := by
  intro k s hs hp
  cases k with
  | zero =>
    have e : s = 0 := hp
    unfold cm_T0
    rw [if_pos e]
    exact Nat.le_refl 0
  | succ k =>
    obtain ⟨t, h1, h2, _⟩ := hp
    omega
theorem cm_In_0 {lt : Nat → Nat → Prop} {S m : Nat} {T0 : Nat → Nat} (h : cm_Lo lt S T0) : cm_In lt S m T0 0 T0 :=
  ⟨fun _ _ => Nat.le_refl _, fun _ _ _ => rfl, fun s hs => absurd hs (Nat.not_lt_zero s), h⟩
theorem cm_In_n {lt : Nat → Nat → Prop} {S m r : Nat} {T0 T : Nat → Nat} (h : cm_In lt S m T0 r T)
    (hn : ¬ (r &&& m = 0 ∧ cm_Sub r S ∧ T r + 1 < T (r ||| m))) : cm_In lt S m T0 (r + 1) T := by
  obtain ⟨h1, h2, h3, h4⟩ := h
  refine ⟨h1, h2, fun s hs hS h0 => ?_, h4⟩
  by_cases e : s = r
  · subst e
    have e2 : ¬ T s + 1 < T (s ||| m) := fun z => hn ⟨h0, hS, z⟩
    have e3 := h2 s (cm_sub_le hS) h0
    omega
  · exact h3 s (by omega) hS h0
theorem cm_or_sub {a b s : Nat} (h1 : cm_Sub a s) (h2 : cm_Sub b s) : cm_Sub (a ||| b) s := fun v hv => by
  rcases cm_or_bit.mp hv with h | h
  · exact h1 v h
  · exact h2 v h
theorem cm_In_w {lt : Nat → Nat → Prop} {S m r : Nat} {T0 T : Nat → Nat} (hS : S < 1024) (m0 : m ≠ 0) (mS : cm_Sub m S) (mC : cm_Chn lt m)
    (rS : cm_Sub r S) (rm : r &&& m = 0) (hT : T r + 1 < T (r ||| m)) (h : cm_In lt S m T0 r T) :
    cm_In lt S m T0 (r + 1) (cm_ut T (r ||| m) (T r + 1)) := by
  obtain ⟨h1, h2, h3, h4⟩ := h
  have hle : r ||| m ≤ S := cm_sub_le (cm_or_sub rS mS)
  have key : ∀ s, s ≤ S → cm_ut T (r ||| m) (T r + 1) s ≤ T s := by
    intro s _
    unfold cm_ut
    by_cases e : s = r ||| m
    · rw [if_pos e, e]; omega
    · rw [if_neg e]; exact Nat.le_refl _
  refine ⟨fun s hs => Nat.le_trans (key s hs) (h1 s hs), fun s hs h0 => ?_, fun s hs hsS h0 => ?_, fun s hs => ?_⟩
  · have e : s ≠ r ||| m := by
      intro e
      obtain ⟨v, hv⟩ := Nat.exists_testBit_of_ne_zero m0
      refine cm_and0'.mp h0 v ?_ hv
      rw [e]
      exact cm_or_bit.mpr (Or.inr hv)
    unfold cm_ut
    rw [if_neg e]
    exact h2 s hs h0
  · by_cases e : s = r
    · subst e
      unfold cm_ut
      rw [if_pos rfl, h2 s (cm_sub_le hsS) h0]
      exact Nat.le_refl _
    · exact Nat.le_trans (key _ (cm_sub_le (cm_or_sub hsS mS))) (h3 s (by omega) hsS h0)
  · unfold cm_ut
    by_cases e : s = r ||| m
    · rw [if_pos e]
      have h5 := (h4 s hs).1
      rw [e] at h5
      refine ⟨by omega, fun A hA hAn => ?_⟩
      have hA1 : A < 1024 := Nat.lt_of_le_of_lt (Nat.le_trans (cm_sub_le hA) hs) hS
      rw [cm_pc_df (t := m) hA1]
      have h6 := cm_meet1 hAn mC
      have h7 := (h4 r (cm_sub_le rS)).2 (cm_df A m) (fun v hv => by
          obtain ⟨g1, g2⟩ := (cm_df_bit hA1).mp hv
          have g3 := hA v g1
          rw [e] at g3
          rcases cm_or_bit.mp g3 with g | g
          · exact g
          · exact absurd g g2)
        (fun u v hu hv => hAn u v ((cm_df_bit hA1).mp hu).1 ((cm_df_bit hA1).mp hv).1)
      omega
    · rw [if_neg e]
      exact h4 s hs
theorem cm_Hi_n {lt : Nat → Nat → Prop} {S m : Nat} {T : Nat → Nat} (hn : ¬ (cm_Sub m S ∧ cm_Chn lt m)) (h : cm_Hi lt S m T) : cm_Hi lt S (m + 1) T := by
  intro k s hs hp
  cases k with
  | zero => exact h 0 s hs hp
  | succ k =>
    obtain ⟨t, h1, h2, h3, h4, h5⟩ := hp
    by_cases e : t = m
    · subst e
      exact absurd ⟨fun v hv => hs v (h3 v hv), h4⟩ hn
    · exact h (k + 1) s hs ⟨t, by omega, h2, h3, h4, h5⟩
theorem cm_Hi_g {lt : Nat → Nat → Prop} {S m : Nat} {T0 T : Nat → Nat} (hS : S < 1024) (h : cm_Hi lt S m T0) (hi : cm_In lt S m T0 (S + 1) T) : cm_Hi lt S (m + 1) T := by
  obtain ⟨i1, i2, i3, i4⟩ := hi
  intro k s hs hp
  have hsl := cm_sub_le hs
  have hs1 : s < 1024 := by omega
  cases k with
  | zero => exact Nat.le_trans (i1 s hsl) (h 0 s hs hp)
  | succ k =>
    obtain ⟨t, h1, h2, h3, h4, h5⟩ := hp
    by_cases e : t = m
    · subst e
      have b1 : cm_Sub (cm_df s t) S := fun v hv => hs v ((cm_df_bit hs1).mp hv).1
      have b2 : cm_df s t &&& t = 0 := cm_and0'.mpr (fun v hv => ((cm_df_bit hs1).mp hv).2)
      have b3 : cm_df s t ||| t = s := cm_ext (fun v => by
        rw [cm_or_bit, cm_df_bit hs1]
        constructor
        · rintro (g | g)
          · exact g.1
          · exact h3 v g
        · intro g
          by_cases f : t.testBit v = true
          · exact Or.inr f
          · exact Or.inl ⟨g, f⟩)
      have b4 := i3 (cm_df s t) (by have := cm_sub_le b1; omega) b1 b2
      rw [b3] at b4
      have b5 := h k (cm_df s t) b1 h5
      omega
    · exact Nat.le_trans (i1 s hsl) (h (k + 1) s hs ⟨t, by omega, h2, h3, h4, h5⟩)
theorem cm_chains {lt : Nat → Nat → Prop} (tr : ∀ a b c, lt a b → lt b c → lt a c) (up : ∀ a b, lt a b → a < b) {S w : Nat} {T : Nat → Nat} (hS : S < 1024)
    (hl : cm_Lo lt S T) (hh : cm_Hi lt S (S + 1) T) (hw : cm_Wd lt S w) : T S = w := by
  obtain ⟨⟨A, h1, h2, ea⟩, ub⟩ := hw
  have g1 := (hl S (Nat.le_refl _)).2 A h1 h2
  obtain ⟨k, hk, hP⟩ := cm_dil tr up S hS w ub
  have hP2 : cm_PP lt k (S + 1) S := by
    cases k with
    | zero => exact hP
    | succ k =>
      obtain ⟨t, _, f2, f3, f4⟩ := hP
      exact ⟨t, by have := cm_sub_le f3; omega, f2, f3, f4⟩
  have g2 := hh k S (fun _ h => h) hP2
  omega
