-- largest antichains, their lowest, Dilworth, layers of minimal elements.
theorem cm_mn_anti {lt : Nat → Nat → Prop} {S : Nat} (hs : S < 1024) : cm_Anti lt (cm_mn lt S) := by
  intro u v hu hv
  exact ((cm_mn_bit hs).mp hv).2 u ((cm_mn_bit hs).mp hu).1

theorem cm_mn_sub {lt : Nat → Nat → Prop} {S : Nat} (hs : S < 1024) : cm_Sub (cm_mn lt S) S :=
  fun _ hv => ((cm_mn_bit hs).mp hv).1

theorem cm_anti_flip {lt : Nat → Nat → Prop} {s : Nat} (h : cm_Anti lt s) : cm_Anti (fun a b => lt b a) s :=
  fun u v hu hv => h v u hv hu

theorem cm_lg_flip {lt : Nat → Nat → Prop} {S w A : Nat} : cm_Lg (fun a b => lt b a) S w A ↔ cm_Lg lt S w A :=
  ⟨fun h => ⟨h.1, fun u v hu hv => h.2.1 v u hv hu, h.2.2⟩, fun h => ⟨h.1, fun u v hu hv => h.2.1 v u hv hu, h.2.2⟩⟩

-- the meet of two largest antichains is one again
theorem cm_meet {lt : Nat → Nat → Prop} (tr : ∀ a b c, lt a b → lt b c → lt a c) {S w A B : Nat} (hS : S < 1024)
    (ub : ∀ A, cm_Sub A S → cm_Anti lt A → cm_pc 10 A ≤ w) (hA : cm_Lg lt S w A) (hB : cm_Lg lt S w B) :
    cm_Lg lt S w (cm_mn lt (A ||| B)) := by
  have hU : cm_Sub (A ||| B) S := fun v hv => by
    rcases cm_or_bit.mp hv with h | h
    · exact hA.1 v h
    · exact hB.1 v h
  have hu : A ||| B < 1024 := cm_sub_lt hU hS
  have sM : cm_Sub (cm_mn lt (A ||| B)) S := fun v hv => hU v (cm_mn_sub hu v hv)
  have sX : cm_Sub (cm_mn (fun a b => lt b a) (A ||| B)) S := fun v hv => hU v (cm_mn_sub hu v hv)
  have aM : cm_Anti lt (cm_mn lt (A ||| B)) := cm_mn_anti hu
  have aX : cm_Anti lt (cm_mn (fun a b => lt b a) (A ||| B)) := fun u v hu' hv' => (cm_mn_anti hu) v u hv' hu'
  have uM := ub _ sM aM
  have uX := ub _ sX aX
  have e1 := cm_pc_or 10 (cm_mn lt (A ||| B)) (cm_mn (fun a b => lt b a) (A ||| B))
  have e2 := cm_pc_or 10 A B
  have m1 : cm_pc 10 (A ||| B) ≤ cm_pc 10 (cm_mn lt (A ||| B) ||| cm_mn (fun a b => lt b a) (A ||| B)) :=
    cm_pc_mono 10 (fun v hv => by
      apply Classical.byContradiction
      intro hn
      have n1 : ¬ (cm_mn lt (A ||| B)).testBit v = true := fun h => hn (cm_or_bit.mpr (Or.inl h))
      have n2 : ¬ (cm_mn (fun a b => lt b a) (A ||| B)).testBit v = true := fun h => hn (cm_or_bit.mpr (Or.inr h))
      have f1 : ∃ u, (A ||| B).testBit u = true ∧ lt u v := by
        apply Classical.byContradiction
        intro h
        exact n1 ((cm_mn_bit hu).mpr ⟨hv, fun u hu' hl => h ⟨u, hu', hl⟩⟩)
      have f2 : ∃ u, (A ||| B).testBit u = true ∧ lt v u := by
        apply Classical.byContradiction
        intro h
        exact n2 ((cm_mn_bit hu).mpr ⟨hv, fun u hu' hl => h ⟨u, hu', hl⟩⟩)
      obtain ⟨y, hy, hyv⟩ := f1
      obtain ⟨z, hz, hvz⟩ := f2
      have hyz := tr _ _ _ hyv hvz
      rcases cm_or_bit.mp hv with h | h <;> rcases cm_or_bit.mp hy with h' | h' <;> rcases cm_or_bit.mp hz with h'' | h''
      · exact hA.2.1 _ _ h' h hyv
      · exact hA.2.1 _ _ h' h hyv
      · exact hA.2.1 _ _ h h'' hvz
      · exact hB.2.1 _ _ h' h'' hyz
      · exact hA.2.1 _ _ h' h'' hyz
      · exact hB.2.1 _ _ h h'' hvz
      · exact hB.2.1 _ _ h' h hyv
      · exact hB.2.1 _ _ h' h hyv)
  have m2 : cm_pc 10 (A &&& B) ≤ cm_pc 10 (cm_mn lt (A ||| B) &&& cm_mn (fun a b => lt b a) (A ||| B)) :=
    cm_pc_mono 10 (fun v hv => by
      obtain ⟨ha, hb⟩ := cm_and_bit.mp hv
      refine cm_and_bit.mpr ⟨(cm_mn_bit hu).mpr ⟨cm_or_bit.mpr (Or.inl ha), fun u hu' hl => ?_⟩,
        (cm_mn_bit hu).mpr ⟨cm_or_bit.mpr (Or.inl ha), fun u hu' hl => ?_⟩⟩
      · rcases cm_or_bit.mp hu' with h | h
        · exact hA.2.1 _ _ h ha hl
        · exact hB.2.1 _ _ h hb hl
      · rcases cm_or_bit.mp hu' with h | h
        · exact hA.2.1 _ _ ha h hl
        · exact hB.2.1 _ _ hb h hl)
  have a2 := hA.2.2
  have b2 := hB.2.2
  exact ⟨sM, aM, by omega⟩

-- a largest antichain meets or touches every element
theorem cm_touch {lt : Nat → Nat → Prop} (ir : ∀ a, ¬ lt a a) {S w M a : Nat} (hS : S < 1024)
    (ub : ∀ A, cm_Sub A S → cm_Anti lt A → cm_pc 10 A ≤ w) (hM : cm_Lg lt S w M) (ha : S.testBit a = true) :
    M.testBit a = true ∨ ∃ y, M.testBit y = true ∧ (lt a y ∨ lt y a) := by
  apply Classical.byContradiction
  intro hn
  have h1 : ¬ M.testBit a = true := fun h => hn (Or.inl h)
  have h2 : ∀ y, M.testBit y = true → ¬ lt a y ∧ ¬ lt y a := fun y hy =>
    ⟨fun h => hn (Or.inr ⟨y, hy, Or.inl h⟩), fun h => hn (Or.inr ⟨y, hy, Or.inr h⟩)⟩
  have h3 := ub (M ||| 2 ^ a)
    (fun v hv => by
      rcases cm_or_bit.mp hv with h | h
      · exact hM.1 v h
      · rw [cm_one_bit] at h; subst h; exact ha)
    (fun u v hu hv => by
      rcases cm_or_bit.mp hu with h | h <;> rcases cm_or_bit.mp hv with h' | h'
      · exact hM.2.1 _ _ h h'
      · rw [cm_one_bit] at h'; subst h'; exact (h2 u h).2
      · rw [cm_one_bit] at h; subst h; exact (h2 v h').1
      · rw [cm_one_bit] at h h'; subst h; subst h'; exact ir _)
  rw [cm_pc_add (cm_hi hS ha) h1] at h3
  have := hM.2.2
  omega

-- the lowest of the largest antichains
theorem cm_low {lt : Nat → Nat → Prop} (tr : ∀ a b c, lt a b → lt b c → lt a c) (ir : ∀ a, ¬ lt a a) {S w : Nat} (hS : S < 1024)
    (ub : ∀ A, cm_Sub A S → cm_Anti lt A → cm_pc 10 A ≤ w) (ex : ∃ A, cm_Lg lt S w A) :
    ∃ M, cm_Lg lt S w M ∧ ∀ A, cm_Lg lt S w A → ∀ a x, A.testBit a = true → M.testBit x = true → ¬ lt a x := by
  have key : ∀ m : Nat, ∃ M, cm_Lg lt S w M ∧ ∀ A, A < m → cm_Lg lt S w A → ∀ a x, A.testBit a = true → M.testBit x = true → ¬ lt a x := by
    intro m
    induction m with
    | zero =>
      obtain ⟨A, hA⟩ := ex
      exact ⟨A, hA, fun B hB => absurd hB (Nat.not_lt_zero _)⟩
    | succ m ih =>
      obtain ⟨M, hM, hl⟩ := ih
      by_cases hm : cm_Lg lt S w m
      · refine ⟨cm_mn lt (M ||| m), cm_meet tr hS ub hM hm, ?_⟩
        have hu : M ||| m < 1024 := cm_sub_lt (t := S) (fun v hv => by
          rcases cm_or_bit.mp hv with h | h
          · exact hM.1 v h
          · exact hm.1 v h) hS
        intro A hA hLA a x ha hx hlt
        obtain ⟨hx1, hx2⟩ := (cm_mn_bit hu).mp hx
        by_cases e : A = m
        · subst e
          exact hx2 a (cm_or_bit.mpr (Or.inr ha)) hlt
        · have hA' : A < m := by omega
          rcases cm_touch ir hS ub hM (hLA.1 a ha) with h | ⟨y, hy, h | h⟩
          · exact hx2 a (cm_or_bit.mpr (Or.inl h)) hlt
          · exact hl A hA' hLA a y ha hy h
          · exact hx2 y (cm_or_bit.mpr (Or.inl hy)) (tr _ _ _ h hlt)
      · refine ⟨M, hM, fun A hA hLA => ?_⟩
        by_cases e : A = m
        · subst e; exact absurd hLA hm
        · exact hl A (by omega) hLA
  obtain ⟨M, hM, hl⟩ := key 1024
  exact ⟨M, hM, fun A hA => hl A (cm_sub_lt hA.1 hS) hA⟩

-- U: the union of all largest antichains; its minimal elements are the lowest one, and nothing else is lowest
theorem cm_low_eq {lt : Nat → Nat → Prop} (tr : ∀ a b c, lt a b → lt b c → lt a c) (ir : ∀ a, ¬ lt a a) {S w U : Nat} (hS : S < 1024)
    (ub : ∀ A, cm_Sub A S → cm_Anti lt A → cm_pc 10 A ≤ w) (ex : ∃ A, cm_Lg lt S w A)
    (hU : ∀ v, U.testBit v = true ↔ ∃ A, cm_Lg lt S w A ∧ A.testBit v = true) :
    cm_Lg lt S w (cm_mn lt U) ∧ ∀ L, cm_Lg lt S w L →
      ((∀ B, cm_Lg lt S w B → ∀ v, L.testBit v = true → B.testBit v = true ∨ ∃ b, B.testBit b = true ∧ lt v b) ↔ L = cm_mn lt U) := by
  have sU : cm_Sub U S := fun v hv => by
    obtain ⟨A, hA, ha⟩ := (hU v).mp hv
    exact hA.1 v ha
  have hu : U < 1024 := cm_sub_lt sU hS
  obtain ⟨M, hM, hl⟩ := cm_low tr ir hS ub ex
  have e : cm_mn lt U = M := cm_ext (fun x => by
    rw [cm_mn_bit hu]
    constructor
    · rintro ⟨h1, h2⟩
      rcases cm_touch ir hS ub hM (sU x h1) with h | ⟨y, hy, h | h⟩
      · exact h
      · obtain ⟨A, hA, ha⟩ := (hU x).mp h1
        exact absurd h (hl A hA x y ha hy)
      · exact absurd h (h2 y ((hU y).mpr ⟨M, hM, hy⟩))
    · intro h
      refine ⟨(hU x).mpr ⟨M, hM, h⟩, fun u hu' => ?_⟩
      obtain ⟨A, hA, ha⟩ := (hU u).mp hu'
      exact hl A hA u x ha h)
  rw [e]
  refine ⟨hM, fun L hL => ⟨fun h => ?_, ?_⟩⟩
  · apply cm_same _ (cm_sub_lt hM.1 hS) (by rw [hL.2.2, hM.2.2]; exact Nat.le_refl _)
    rw [← e]
    intro x hx
    refine (cm_mn_bit hu).mpr ⟨(hU x).mpr ⟨L, hL, hx⟩, fun u hu' hlt => ?_⟩
    obtain ⟨B, hB, hb⟩ := (hU u).mp hu'
    rcases h B hB x hx with h' | ⟨b, hb', h'⟩
    · exact hB.2.1 _ _ hb h' hlt
    · exact hB.2.1 _ _ hb hb' (tr _ _ _ hlt h')
  · intro eL B hB v hv
    subst eL
    rcases cm_touch ir hS ub hB (hL.1 v hv) with h | ⟨y, hy, h | h⟩
    · exact Or.inl h
    · exact Or.inr ⟨y, hy, h⟩
    · exact absurd h (hl B hB y v hy hv)

-- Dilworth
theorem cm_PP_mono {lt : Nat → Nat → Prop} {k m m' s : Nat} (h : cm_PP lt k m s) (hm : m ≤ m') : cm_PP lt k m' s := by
  cases k with
  | zero => exact h
  | succ k =>
    obtain ⟨t, h1, h2⟩ := h
    exact ⟨t, Nat.lt_of_lt_of_le h1 hm, h2⟩

theorem cm_PP_ins {lt : Nat → Nat → Prop} : ∀ (k m s t : Nat), s < 1024 → t < 1024 → cm_PP lt k m s → t ≠ 0 → t < m → cm_Chn lt t →
    (∀ v, t.testBit v = true → ¬ s.testBit v = true) → cm_PP lt (k + 1) m (s ||| t) := by
  intro k
  induction k with
  | zero =>
    intro m s t hs ht h t0 tm hc hd
    have hs0 : s = 0 := h
    subst hs0
    refine ⟨t, tm, t0, fun v hv => cm_or_bit.mpr (Or.inr hv), hc, ?_⟩
    show cm_df (0 ||| t) t = 0
    apply cm_ext
    intro v
    rw [cm_df_bit (by rw [Nat.zero_or]; exact ht), Nat.zero_or]
    simp
  | succ k ih =>
    intro m s t hs ht h t0 tm hc hd
    obtain ⟨t1, h1, h2, h3, h4, h5⟩ := h
    have hst : s ||| t < 1024 := Nat.or_lt_two_pow (n := 10) hs ht
    have ht1 : t1 < 1024 := cm_sub_lt h3 hs
    have hne : t1 ≠ t := by
      intro e
      subst e
      apply h2
      apply cm_ext
      intro v
      constructor
      · intro hv; exact absurd (h3 v hv) (hd v hv)
      · intro hv; simp at hv
    rcases Nat.lt_or_gt_of_ne hne with hlt | hgt
    · refine ⟨t, tm, t0, fun v hv => cm_or_bit.mpr (Or.inr hv), hc, ?_⟩
      have e : cm_df (s ||| t) t = s := cm_ext (fun v => by
        rw [cm_df_bit hst, cm_or_bit]
        constructor
        · rintro ⟨h | h, h'⟩
          · exact h
          · exact absurd h h'
        · intro h
          exact ⟨Or.inl h, fun h' => hd v h' h⟩)
      rw [e]
      exact ⟨t1, hlt, h2, h3, h4, h5⟩
    · refine ⟨t1, h1, h2, fun v hv => cm_or_bit.mpr (Or.inl (h3 v hv)), h4, ?_⟩
      have e : cm_df (s ||| t) t1 = cm_df s t1 ||| t := cm_ext (fun v => by
        rw [cm_df_bit hst, cm_or_bit, cm_or_bit, cm_df_bit hs]
        constructor
        · rintro ⟨h | h, h'⟩
          · exact Or.inl ⟨h, h'⟩
          · exact Or.inr h
        · rintro (⟨h, h'⟩ | h)
          · exact ⟨Or.inl h, h'⟩
          · exact ⟨Or.inr h, fun h' => hd v h (h3 v h')⟩)
      rw [e]
      exact ih t1 (cm_df s t1) t (cm_bm_lt _) ht h5 t0 hgt hc (fun v hv hv' => hd v hv ((cm_df_bit hs).mp hv').1)

theorem cm_PP_ext {lt : Nat → Nat → Prop} : ∀ (k m s x : Nat), s < 1024 → m ≤ 1024 → cm_PP lt k m s → s.testBit x = true →
    ∃ t j, k = j + 1 ∧ t.testBit x = true ∧ cm_Sub t s ∧ cm_Chn lt t ∧ cm_PP lt j 1024 (cm_df s t) := by
  intro k
  induction k with
  | zero =>
    intro m s x hs hm h hx
    have hs0 : s = 0 := h
    subst hs0
    simp at hx
  | succ k ih =>
    intro m s x hs hm h hx
    obtain ⟨t1, h1, h2, h3, h4, h5⟩ := h
    have ht1 : t1 < 1024 := cm_sub_lt h3 hs
    by_cases e : t1.testBit x = true
    · exact ⟨t1, k, rfl, e, h3, h4, cm_PP_mono h5 (Nat.le_of_lt ht1)⟩
    · obtain ⟨t, j, ej, g1, g2, g3, g4⟩ := ih t1 (cm_df s t1) x (cm_bm_lt _) (Nat.le_of_lt ht1) h5 ((cm_df_bit hs).mpr ⟨hx, e⟩)
      have st : cm_Sub t s := fun v hv => ((cm_df_bit hs).mp (g2 v hv)).1
      refine ⟨t, k, rfl, g1, st, g3, ?_⟩
      have e2 : cm_df (cm_df s t1) t ||| t1 = cm_df s t := cm_ext (fun v => by
        rw [cm_or_bit, cm_df_bit (cm_df_lt s t1), cm_df_bit hs, cm_df_bit hs]
        constructor
        · rintro (⟨⟨h, h'⟩, h''⟩ | h)
          · exact ⟨h, h''⟩
          · exact ⟨h3 v h, fun h' => ((cm_df_bit hs).mp (g2 v h')).2 h⟩
        · rintro ⟨h, h'⟩
          by_cases e3 : t1.testBit v = true
          · exact Or.inr e3
          · exact Or.inl ⟨⟨h, e3⟩, h'⟩)
      rw [← e2, ej]
      exact cm_PP_ins j 1024 _ t1 (cm_bm_lt _) ht1 g4 h2 ht1 h4 (fun v hv hv' =>
        ((cm_df_bit hs).mp ((cm_df_bit (cm_df_lt s t1)).mp hv').1).2 hv)

theorem cm_meet1 {lt : Nat → Nat → Prop} {A t : Nat} (hA : cm_Anti lt A) (ht : cm_Chn lt t) : cm_pc 10 (A &&& t) ≤ 1 :=
  cm_pc_le1 10 (fun u v hu hv => by
    obtain ⟨a1, b1⟩ := cm_and_bit.mp hu
    obtain ⟨a2, b2⟩ := cm_and_bit.mp hv
    apply Classical.byContradiction
    intro hne
    rcases ht u v b1 b2 hne with h | h
    · exact hA _ _ a1 a2 h
    · exact hA _ _ a2 a1 h)

theorem cm_PP_ub {lt : Nat → Nat → Prop} : ∀ (k m s A : Nat), s < 1024 → cm_PP lt k m s → cm_Sub A s → cm_Anti lt A → cm_pc 10 A ≤ k := by
  intro k
  induction k with
  | zero =>
    intro m s A hs h hA _
    have hs0 : s = 0 := h
    subst hs0
    rw [cm_pc_0 10 (fun v hv => by have := hA v hv; simp at this)]
    exact Nat.le_refl 0
  | succ k ih =>
    intro m s A hs h hA hAn
    obtain ⟨t, h1, h2, h3, h4, h5⟩ := h
    have hA1 : A < 1024 := cm_sub_lt hA hs
    rw [cm_pc_df (t := t) hA1]
    have e1 := cm_meet1 hAn h4
    have e2 := ih t (cm_df s t) (cm_df A t) (cm_bm_lt _) h5
      (fun v hv => (cm_df_bit hs).mpr ⟨hA v ((cm_df_bit hA1).mp hv).1, ((cm_df_bit hA1).mp hv).2⟩)
      (fun u v hu hv => hAn u v ((cm_df_bit hA1).mp hu).1 ((cm_df_bit hA1).mp hv).1)
    omega

-- the greatest and the least number in a set
theorem cm_top {S : Nat} (hS : S < 1024) (h : S ≠ 0) : ∃ a, S.testBit a = true ∧ ∀ v, S.testBit v = true → v ≤ a := by
  have key : ∀ k, (∃ v, v < k ∧ S.testBit v = true) → ∃ a, S.testBit a = true ∧ ∀ v, v < k → S.testBit v = true → v ≤ a := by
    intro k
    induction k with
    | zero => rintro ⟨v, hv, _⟩; omega
    | succ k ih =>
      intro hex
      by_cases e : S.testBit k = true
      · exact ⟨k, e, fun v hv _ => by omega⟩
      · obtain ⟨v, hv, hv2⟩ := hex
        have hvk : v ≠ k := fun h => e (h ▸ hv2)
        obtain ⟨a, ha, hb⟩ := ih ⟨v, by omega, hv2⟩
        refine ⟨a, ha, fun u hu hu2 => ?_⟩
        have huk : u ≠ k := fun h => e (h ▸ hu2)
        exact hb u (by omega) hu2
  obtain ⟨v, hv⟩ := Nat.exists_testBit_of_ne_zero h
  obtain ⟨a, ha, hb⟩ := key 10 ⟨v, cm_hi hS hv, hv⟩
  exact ⟨a, ha, fun u hu => hb u (cm_hi hS hu) hu⟩

theorem cm_bot {S : Nat} (h : S ≠ 0) : ∃ a, S.testBit a = true ∧ ∀ v, S.testBit v = true → a ≤ v := by
  obtain ⟨v, hv⟩ := Nat.exists_testBit_of_ne_zero h
  have key : ∀ k, S.testBit k = true → ∃ a, S.testBit a = true ∧ ∀ v, S.testBit v = true → a ≤ v := by
    intro k
    induction k using Nat.strongRecOn with
    | ind k ih =>
      intro hk
      by_cases e : ∃ u, u < k ∧ S.testBit u = true
      · obtain ⟨u, hu, hu2⟩ := e
        exact ih u hu hu2
      · exact ⟨k, hk, fun u hu => Nat.le_of_not_lt (fun hlt => e ⟨u, hlt, hu⟩)⟩
  exact key v hv

theorem cm_sub_le {s t : Nat} (h : cm_Sub s t) : s ≤ t := by
  have e : s &&& t = s := cm_ext (fun v => by
    rw [cm_and_bit]
    exact ⟨fun x => x.1, fun x => ⟨x, h v x⟩⟩)
  rw [← e]
  exact Nat.and_le_right

theorem cm_df_less {s t x : Nat} (hs : s < 1024) (hx : s.testBit x = true) (ht : t.testBit x = true) : cm_df s t < s := by
  have h1 : cm_df s t ≤ s := cm_sub_le (fun v hv => ((cm_df_bit hs).mp hv).1)
  have h2 : cm_df s t ≠ s := fun e => by
    have : (cm_df s t).testBit x = true := by rw [e]; exact hx
    exact ((cm_df_bit hs).mp this).2 ht
  omega

theorem cm_dil {lt : Nat → Nat → Prop} (tr : ∀ a b c, lt a b → lt b c → lt a c) (up : ∀ a b, lt a b → a < b) :
    ∀ S, S < 1024 → ∀ w, (∀ A, cm_Sub A S → cm_Anti lt A → cm_pc 10 A ≤ w) → ∃ k, k ≤ w ∧ cm_PP lt k 1024 S := by
  have ir : ∀ a, ¬ lt a a := fun a h => Nat.lt_irrefl a (up a a h)
  intro S
  induction S using Nat.strongRecOn with
  | ind S ih =>
    intro hS w ub
    by_cases hS0 : S = 0
    · subst hS0
      exact ⟨0, Nat.zero_le _, rfl⟩
    obtain ⟨a, ha, hat⟩ := cm_top hS hS0
    have ha10 : a < 10 := cm_hi hS ha
    have h2a : 2 ^ a < 1024 := cm_lt (fun v hv => by rw [cm_one_bit] at hv; omega)
    have h2a0 : 2 ^ a ≠ 0 := Nat.ne_of_gt (Nat.two_pow_pos a)
    have hw1 : 1 ≤ w := by
      have := ub (2 ^ a) (fun v hv => by rw [cm_one_bit] at hv; subst hv; exact ha)
        (fun u v hu hv => by rw [cm_one_bit] at hu hv; subst hu; subst hv; exact ir _)
      rw [cm_pc_one 10 a ha10] at this
      exact this
    have hS' : cm_df S (2 ^ a) < S := cm_df_less hS ha (cm_one_bit.mpr rfl)
    have bS' : ∀ v, (cm_df S (2 ^ a)).testBit v = true ↔ S.testBit v = true ∧ v ≠ a := fun v => by
      rw [cm_df_bit hS, cm_one_bit]
      exact ⟨fun h => ⟨h.1, fun e => h.2 e.symm⟩, fun h => ⟨h.1, fun e => h.2 e.symm⟩⟩
    generalize cm_df S (2 ^ a) = S' at hS' bS'
    have hS'k : S' < 1024 := by omega
    have sub' : cm_Sub S' S := fun v hv => ((bS' v).mp hv).1
    have eS : S' ||| 2 ^ a = S := cm_ext (fun v => by
      rw [cm_or_bit, bS', cm_one_bit]
      constructor
      · rintro (h | h)
        · exact h.1
        · subst h; exact ha
      · intro h
        by_cases e : v = a
        · exact Or.inr e.symm
        · exact Or.inl ⟨h, e⟩)
    have ub' : ∀ A, cm_Sub A S' → cm_Anti lt A → cm_pc 10 A ≤ w := fun A h1 h2 => ub A (fun v hv => sub' v (h1 v hv)) h2
    by_cases hB : ∃ B, cm_Lg lt S' w B
    · obtain ⟨B0, hB0⟩ := hB
      obtain ⟨H, hH, hHl⟩ := cm_low (lt := fun a b => lt b a) (S := S') (w := w) (fun a b c h1 h2 => tr c b a h2 h1) ir hS'k
        (fun A h1 h2 => ub' A h1 (fun u v hu hv => h2 v u hv hu)) ⟨B0, cm_lg_flip.mpr hB0⟩
      have hH' : cm_Lg lt S' w H := cm_lg_flip.mp hH
      have hHl' : ∀ A, cm_Lg lt S' w A → ∀ b x, A.testBit b = true → H.testBit x = true → ¬ lt x b :=
        fun A hA b x hb hx => hHl A (cm_lg_flip.mpr hA) b x hb hx
      obtain ⟨k, hk, hP⟩ := ih S' hS' hS'k w ub'
      have hkw : k = w := by
        have := cm_PP_ub k 1024 S' B0 hS'k hP hB0.1 hB0.2.1
        have := hB0.2.2
        omega
      subst hkw
      have hx : ∃ x, H.testBit x = true ∧ lt x a := by
        apply Classical.byContradiction
        intro hn
        have haH : ¬ H.testBit a = true := fun h => ((bS' a).mp (hH'.1 a h)).2 rfl
        have := ub (H ||| 2 ^ a)
          (fun v hv => by
            rcases cm_or_bit.mp hv with h | h
            · exact sub' v (hH'.1 v h)
            · rw [cm_one_bit] at h; subst h; exact ha)
          (fun u v hu hv => by
            rcases cm_or_bit.mp hu with h | h <;> rcases cm_or_bit.mp hv with h' | h'
            · exact hH'.2.1 _ _ h h'
            · rw [cm_one_bit] at h'; subst h'; exact fun hl => hn ⟨u, h, hl⟩
            · rw [cm_one_bit] at h; subst h
              intro hl
              have h1 := up _ _ hl
              have h2 := hat v (sub' v (hH'.1 v h'))
              omega
            · rw [cm_one_bit] at h h'; subst h; subst h'; exact ir _)
        rw [cm_pc_add ha10 haH] at this
        have := hH'.2.2
        omega
      obtain ⟨x, hx, hxa⟩ := hx
      obtain ⟨t, j, ej, g1, g2, g3, g4⟩ := cm_PP_ext k 1024 S' x hS'k (Nat.le_refl _) hP (hH'.1 x hx)
      have ht : t < 1024 := cm_sub_lt g2 hS'k
      have bK : ∀ v, (cm_bm 10 (fun z => z = a ∨ (t.testBit z = true ∧ (z = x ∨ lt z x)))).testBit v = true ↔
          v = a ∨ (t.testBit v = true ∧ (v = x ∨ lt v x)) := fun v => by
        rw [cm_bm_bit]
        refine ⟨fun h => h.2, fun h => ⟨?_, h⟩⟩
        rcases h with h | h
        · omega
        · exact cm_hi ht h.1
      have hK : cm_bm 10 (fun z => z = a ∨ (t.testBit z = true ∧ (z = x ∨ lt z x))) < 1024 := cm_bm_lt _
      generalize cm_bm 10 (fun z => z = a ∨ (t.testBit z = true ∧ (z = x ∨ lt z x))) = K at bK hK
      have hKa : K.testBit a = true := (bK a).mpr (Or.inl rfl)
      have cK : cm_Chn lt K := by
        intro u v hu hv hne
        rcases (bK u).mp hu with h | ⟨h, h'⟩ <;> rcases (bK v).mp hv with f | ⟨f, f'⟩
        · omega
        · subst h
          right
          rcases f' with f' | f'
          · subst f'; exact hxa
          · exact tr _ _ _ f' hxa
        · subst f
          left
          rcases h' with h' | h'
          · subst h'; exact hxa
          · exact tr _ _ _ h' hxa
        · exact g3 u v h f hne
      have hR : cm_df S K < S := cm_df_less hS ha hKa
      have bR : ∀ v, (cm_df S K).testBit v = true ↔ S.testBit v = true ∧ ¬ K.testBit v = true := fun v => cm_df_bit hS
      have sK : cm_Sub K S := fun v hv => by
        rcases (bK v).mp hv with h | ⟨h, _⟩
        · subst h; exact ha
        · exact sub' v (g2 v h)
      have eS2 : cm_df S K ||| K = S := cm_ext (fun v => by
        rw [cm_or_bit, bR]
        constructor
        · rintro (h | h)
          · exact h.1
          · exact sK v h
        · intro h
          by_cases e : K.testBit v = true
          · exact Or.inr e
          · exact Or.inl ⟨h, e⟩)
      have ubR : ∀ A, cm_Sub A (cm_df S K) → cm_Anti lt A → cm_pc 10 A ≤ k - 1 := by
        intro A hA hAn
        apply Classical.byContradiction
        intro hgt
        have hAS : cm_Sub A S := fun v hv => ((bR v).mp (hA v hv)).1
        have hle := ub A hAS hAn
        have hAK : ∀ v, A.testBit v = true → ¬ K.testBit v = true := fun v hv => ((bR v).mp (hA v hv)).2
        have hAS' : cm_Sub A S' := fun v hv => (bS' v).mpr ⟨hAS v hv, fun e => hAK v hv (e ▸ hKa)⟩
        have hLA : cm_Lg lt S' k A := ⟨hAS', hAn, by omega⟩
        by_cases hb : ∃ b, A.testBit b = true ∧ t.testBit b = true
        · obtain ⟨b, hb1, hb2⟩ := hb
          have hbK := hAK b hb1
          have hbx : b ≠ x := fun e => hbK ((bK b).mpr (Or.inr ⟨hb2, Or.inl e⟩))
          rcases g3 b x hb2 g1 hbx with h | h
          · exact hbK ((bK b).mpr (Or.inr ⟨hb2, Or.inr h⟩))
          · exact hHl' A hLA b x hb1 hx h
        · have := cm_PP_ub j 1024 (cm_df S' t) A (cm_bm_lt _) g4
            (fun v hv => (cm_df_bit hS'k).mpr ⟨hAS' v hv, fun e => hb ⟨v, hv, e⟩⟩) hAn
          omega
      obtain ⟨k2, hk2, hP2⟩ := ih (cm_df S K) hR (cm_bm_lt _) (k - 1) ubR
      refine ⟨k2 + 1, by omega, ?_⟩
      rw [← eS2]
      refine cm_PP_ins k2 1024 _ K (cm_bm_lt _) hK hP2 ?_ hK cK (fun v hv hv' => ((bR v).mp hv').2 hv)
      intro e
      rw [e] at hKa
      simp at hKa
    · obtain ⟨k, hk, hP⟩ := ih S' hS' hS'k (w - 1) (fun A h1 h2 => by
        have h3 := ub' A h1 h2
        have h4 : cm_pc 10 A ≠ w := fun e => hB ⟨A, h1, h2, e⟩
        omega)
      refine ⟨k + 1, by omega, ?_⟩
      rw [← eS]
      exact cm_PP_ins k 1024 S' (2 ^ a) hS'k h2a hP h2a0 h2a
        (fun u v hu hv hne => by rw [cm_one_bit] at hu hv; omega)
        (fun v hv hv' => by rw [cm_one_bit] at hv; exact ((bS' v).mp hv').2 hv.symm)

-- longest chains by layers
theorem cm_layer {lt : Nat → Nat → Prop} (tr : ∀ a b c, lt a b → lt b c → lt a c) (up : ∀ a b, lt a b → a < b) {S w : Nat}
    (hS : S < 1024) (h0 : S ≠ 0) (h : cm_Lc lt (cm_df S (cm_mn lt S)) w) : cm_Lc lt S (w + 1) := by
  obtain ⟨⟨C, hC1, hC2, hC3⟩, hub⟩ := h
  have hC : C < 1024 := cm_sub_lt hC1 (cm_bm_lt _)
  have bD : ∀ v, (cm_df S (cm_mn lt S)).testBit v = true ↔ S.testBit v = true ∧ ¬ (cm_mn lt S).testBit v = true := fun v => cm_df_bit hS
  have bM : ∀ v, (cm_mn lt S).testBit v = true ↔ S.testBit v = true ∧ ∀ u, S.testBit u = true → ¬ lt u v := fun v => cm_mn_bit hS
  refine ⟨?_, ?_⟩
  · have hy : ∃ y, S.testBit y = true ∧ ∀ v, C.testBit v = true → lt y v := by
      by_cases e : C = 0
      · obtain ⟨y, hy⟩ := Nat.exists_testBit_of_ne_zero h0
        exact ⟨y, hy, fun v hv => by rw [e] at hv; simp at hv⟩
      · obtain ⟨b, hb, hbl⟩ := cm_bot e
        obtain ⟨hb1, hb2⟩ := (bD b).mp (hC1 b hb)
        have : ∃ y, S.testBit y = true ∧ lt y b := by
          apply Classical.byContradiction
          intro hn
          exact hb2 ((bM b).mpr ⟨hb1, fun u hu hl => hn ⟨u, hu, hl⟩⟩)
        obtain ⟨y, hy, hyb⟩ := this
        refine ⟨y, hy, fun v hv => ?_⟩
        by_cases e2 : v = b
        · subst e2; exact hyb
        · rcases hC2 v b hv hb e2 with h | h
          · have h1 := up _ _ h
            have h2 := hbl v hv
            omega
          · exact tr _ _ _ hyb h
    obtain ⟨y, hy, hyC⟩ := hy
    have hyn : ¬ C.testBit y = true := fun h => Nat.lt_irrefl y (up _ _ (hyC y h))
    refine ⟨C ||| 2 ^ y, ?_, ?_, ?_⟩
    · intro v hv
      rcases cm_or_bit.mp hv with h | h
      · exact ((bD v).mp (hC1 v h)).1
      · rw [cm_one_bit] at h; subst h; exact hy
    · intro u v hu hv hne
      rcases cm_or_bit.mp hu with h | h <;> rcases cm_or_bit.mp hv with h' | h'
      · exact hC2 u v h h' hne
      · rw [cm_one_bit] at h'; subst h'; exact Or.inr (hyC u h)
      · rw [cm_one_bit] at h; subst h; exact Or.inl (hyC v h')
      · rw [cm_one_bit] at h h'; omega
    · rw [cm_pc_add (cm_hi hS hy) hyn, hC3]
  · intro A hA hAc
    have hA1 : A < 1024 := cm_sub_lt hA hS
    rw [cm_pc_df (t := cm_mn lt S) hA1]
    have e1 := hub (cm_df A (cm_mn lt S))
      (fun v hv => (bD v).mpr ⟨hA v ((cm_df_bit hA1).mp hv).1, ((cm_df_bit hA1).mp hv).2⟩)
      (fun u v hu hv hne => hAc u v ((cm_df_bit hA1).mp hu).1 ((cm_df_bit hA1).mp hv).1 hne)
    have e2 : cm_pc 10 (A &&& cm_mn lt S) ≤ 1 := cm_pc_le1 10 (fun u v hu hv => by
      obtain ⟨a1, b1⟩ := cm_and_bit.mp hu
      obtain ⟨a2, b2⟩ := cm_and_bit.mp hv
      apply Classical.byContradiction
      intro hne
      rcases hAc u v a1 a2 hne with h | h
      · exact cm_mn_anti hS u v b1 b2 h
      · exact cm_mn_anti hS v u b2 b1 h)
    omega

theorem cm_Lc_0 {lt : Nat → Nat → Prop} : cm_Lc lt 0 0 :=
  ⟨⟨0, fun _ h => h, fun u v hu => by simp at hu, cm_pc_0 10 (fun v hv => by simp at hv)⟩,
   fun A hA _ => Nat.le_of_eq (cm_pc_0 10 (fun v hv => by have := hA v hv; simp at this))⟩

-- submasks downward
theorem cm_sub_half {p s : Nat} (h : cm_Sub p s) : cm_Sub (p / 2) (s / 2) := fun v hv => by
  have h1 := h (v + 1)
  rw [Nat.testBit_succ, Nat.testBit_succ] at h1
  exact h1 hv
theorem cm_sub_and {p s : Nat} (h : cm_Sub p s) : p &&& s = p := cm_ext (fun v => by
  rw [cm_and_bit]
  exact ⟨fun g => g.1, fun g => ⟨g, h v g⟩⟩)
theorem cm_sub_odd {p s : Nat} (h : cm_Sub p s) : p % 2 ≤ s % 2 := by
  have h0 := h 0
  rw [Nat.testBit_zero, Nat.testBit_zero, decide_eq_true_eq, decide_eq_true_eq] at h0
  omega
theorem cm_and_odd (a b : Nat) : (a &&& b) % 2 = (a % 2) * (b % 2) := by
  have h := Nat.and_mod_two_eq_one (a := a) (b := b)
  rcases Nat.mod_two_eq_zero_or_one a with ha | ha <;> rcases Nat.mod_two_eq_zero_or_one b with hb | hb <;>
    rcases Nat.mod_two_eq_zero_or_one (a &&& b) with hc | hc <;> simp_all
theorem cm_down : ∀ (p set q : Nat), cm_Sub p set → cm_Sub q set → q < p → q ≤ (p - 1) &&& set := by
  intro p
  induction p using Nat.strongRecOn with
  | ind p ih =>
    intro set q hp hq hlt
    have e1 : ((p - 1) &&& set) / 2 = (p - 1) / 2 &&& set / 2 := Nat.and_div_two
    have e2 := cm_and_odd (p - 1) set
    have o1 := cm_sub_odd hp
    have o2 := cm_sub_odd hq
    have s1 := cm_sub_half hp
    have s2 := cm_sub_half hq
    rcases Nat.mod_two_eq_zero_or_one p with hp2 | hp2
    · have e3 : (p - 1) / 2 = p / 2 - 1 := by omega
      have e4 : (p - 1) % 2 = 1 := by omega
      rw [e4, Nat.one_mul] at e2
      rw [e3] at e1
      have h1 := ih (p / 2) (by omega) (set / 2) (q / 2) s1 s2 (by omega)
      generalize (p - 1) &&& set = z at e1 e2 ⊢
      rw [← e1] at h1
      omega
    · have e3 : (p - 1) / 2 = p / 2 := by omega
      rw [e3, cm_sub_and s1] at e1
      generalize (p - 1) &&& set = z at e1 e2 ⊢
      omega
