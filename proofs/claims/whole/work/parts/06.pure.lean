-- antichains and chains as the two programs see them
theorem cm_anti_eb {c : Nat} {d : Nat → Nat} {s f : Nat} (hs : s < 2 ^ c)
    (hf : ∀ t, f.testBit t = true ↔ ∃ v, v < c ∧ s.testBit v = true ∧ (d v).testBit t = true) : f &&& s = 0 ↔ cm_Anti (cm_L c d) s := by
  rw [cm_and0']
  constructor
  · intro h u v hu hv hl
    exact h u ((hf u).mpr ⟨v, hl.1, hv, hl.2⟩) hu
  · intro h u hu hu2
    obtain ⟨v, h1, h2, h3⟩ := (hf u).mp hu
    exact h u v hu2 h2 ⟨h1, h3⟩
theorem cm_uni_anti {c : Nat} {d : Nat → Nat} (ok : cm_OK c d) {s : Nat} (hs : s < 2 ^ c) :
    (∀ v, v < c → ∀ u, u < v → s.testBit u = true → s.testBit v = true → (d v).testBit u = false) ↔ cm_Anti (cm_L c d) s := by
  constructor
  · intro h u v hu hv hl
    have := h v hl.1 u (cm_up ok u v hl) hu hv
    rw [hl.2] at this
    cases this
  · intro h v hv u huv hu hs2
    cases e : (d v).testBit u with
    | false => rfl
    | true => exact absurd ⟨hv, e⟩ (h u v hu hs2)
theorem cm_uni_chn {c : Nat} {d : Nat → Nat} (ok : cm_OK c d) {s : Nat} (hs : s < 2 ^ c) :
    (∀ v, v < c → ∀ u, u < v → s.testBit u = true → s.testBit v = true → (d v).testBit u = true) ↔ cm_Chn (cm_L c d) s := by
  constructor
  · intro h u v hu hv hne
    have h1 := cm_hi2 hs hu
    have h2 := cm_hi2 hs hv
    rcases Nat.lt_or_gt_of_ne hne with g | g
    · exact Or.inl ⟨h2, h v h2 u g hu hv⟩
    · exact Or.inr ⟨h1, h u h1 v g hv hu⟩
  · intro h v hv u huv hu hs2
    rcases h u v hu hs2 (by omega) with g | g
    · exact g.2
    · have := cm_up ok v u g
      omega
theorem cm_noabove {c : Nat} {d : Nat → Nat} (ok : cm_OK c d) {u v : Nat} (hv : v < c) (h : u < v) : (d u).testBit v = false := by
  cases e : (d u).testBit v with
  | false => rfl
  | true =>
    have := cm_up ok v u ⟨by omega, e⟩
    omega

-- minimal and maximal elements
theorem cm_mn_eq {c : Nat} {d : Nat → Nat} {s f : Nat} (hc : c ≤ 10) (hs : s < 2 ^ c)
    (hf : ∀ v, f.testBit v = true ↔ v < c ∧ s.testBit v = true ∧ d v &&& s = 0) : f = cm_mn (cm_L c d) s := by
  have hp := cm_p2 hc
  apply cm_ext
  intro v
  rw [hf v, cm_mn_bit (by omega)]
  constructor
  · rintro ⟨h1, h2, h3⟩
    exact ⟨h2, fun u hu hl => cm_and0'.mp h3 u hl.2 hu⟩
  · rintro ⟨h1, h2⟩
    have hv := cm_hi2 hs h1
    exact ⟨hv, h1, cm_and0'.mpr (fun u hu hu2 => h2 u hu2 ⟨hv, hu⟩)⟩
theorem cm_mx_eq {c : Nat} {d : Nat → Nat} {s f : Nat} (hc : c ≤ 10) (hs : s < 2 ^ c)
    (hf : ∀ t, f.testBit t = true ↔ ∃ v, v < c ∧ s.testBit v = true ∧ (d v).testBit t = true) :
    cm_df s f = cm_mn (fun a b => cm_L c d b a) s := by
  have hp := cm_p2 hc
  apply cm_ext
  intro v
  rw [cm_df_bit (by omega), cm_mn_bit (by omega)]
  constructor
  · rintro ⟨h1, h2⟩
    exact ⟨h1, fun u hu hl => h2 ((hf v).mpr ⟨u, hl.1, hu, hl.2⟩)⟩
  · rintro ⟨h1, h2⟩
    refine ⟨h1, fun h => ?_⟩
    obtain ⟨u, g1, g2, g3⟩ := (hf v).mp h
    exact h2 u g2 ⟨g1, g3⟩

-- layers
theorem cm_pc_pos {s v : Nat} (hv : v < 10) (h : s.testBit v = true) : 1 ≤ cm_pc 10 s := by
  have h1 := cm_pc_mono 10 (s := 2 ^ v) (t := s) (fun u hu => by
    rw [cm_one_bit] at hu
    subst hu
    exact h)
  rw [cm_pc_one 10 v hv] at h1
  exact h1
theorem cm_peel {lt : Nat → Nat → Prop} (up : ∀ a b, lt a b → a < b) {S : Nat} (hS : S < 1024) (h0 : S ≠ 0) :
    cm_pc 10 (cm_df S (cm_mn lt S)) + 1 ≤ cm_pc 10 S := by
  obtain ⟨a, ha, hl⟩ := cm_bot h0
  have hm : (cm_mn lt S).testBit a = true := (cm_mn_bit hS).mpr ⟨ha, fun u hu hlt => by
    have h1 := up _ _ hlt
    have h2 := hl u hu
    omega⟩
  have h1 := cm_pc_df (t := cm_mn lt S) hS
  have h2 : 1 ≤ cm_pc 10 (S &&& cm_mn lt S) := cm_pc_pos (cm_hi hS ha) (cm_and_bit.mpr ⟨ha, hm⟩)
  omega
def cm_Ly (lt : Nat → Nat → Prop) (S i R : Nat) : Prop := R ≤ S ∧ cm_Sub R S ∧ cm_pc 10 R + i ≤ 10 ∧ ∀ w, cm_Lc lt R w → cm_Lc lt S (w + i)
theorem cm_Ly_0 (lt : Nat → Nat → Prop) (S : Nat) : cm_Ly lt S 0 S :=
  ⟨Nat.le_refl _, fun _ h => h, cm_pc_le 10 S, fun w h => h⟩
theorem cm_Ly_s {lt : Nat → Nat → Prop} (tr : ∀ a b c, lt a b → lt b c → lt a c) (up : ∀ a b, lt a b → a < b) {S i R : Nat} (hS : S < 1024) (h : cm_Ly lt S i R) (h0 : R ≠ 0) :
    cm_Ly lt S (i + 1) (cm_df R (cm_mn lt R)) := by
  obtain ⟨h1, h2, h3, h4⟩ := h
  have hR : R < 1024 := by omega
  have hs : cm_Sub (cm_df R (cm_mn lt R)) S := fun v hv => h2 v ((cm_df_bit hR).mp hv).1
  have hp := cm_peel up hR h0
  refine ⟨cm_sub_le hs, hs, by omega, fun w hw => ?_⟩
  have := h4 (w + 1) (cm_layer tr up hR h0 hw)
  rw [Nat.add_comm i 1, ← Nat.add_assoc]
  exact this
theorem cm_Ly_e {lt : Nat → Nat → Prop} {S i : Nat} (h : cm_Ly lt S i 0) : cm_Lc lt S i := by
  have := h.2.2.2 0 cm_Lc_0
  rw [Nat.zero_add] at this
  exact this
theorem cm_Ly_10 {lt : Nat → Nat → Prop} {S R : Nat} (hS : S < 1024) (h : cm_Ly lt S 10 R) : R = 0 := by
  obtain ⟨h1, h2, h3, h4⟩ := h
  apply cm_0i.mpr
  intro v hv
  have := cm_pc_pos (cm_hi (by omega) hv) hv
  omega

-- the order turned round
noncomputable def cm_tn (c : Nat) (d : Nat → Nat) (j : Nat) : Nat := cm_bm 10 (fun t => t < c ∧ (d (c - 1 - t)).testBit (c - 1 - j) = true)
theorem cm_tn_bit {c : Nat} {d : Nat → Nat} (hc : c ≤ 10) {j t : Nat} :
    (cm_tn c d j).testBit t = true ↔ t < c ∧ (d (c - 1 - t)).testBit (c - 1 - j) = true := by
  unfold cm_tn
  rw [cm_bm_bit]
  exact ⟨fun h => h.2, fun h => ⟨by have := h.1; omega, h⟩⟩
theorem cm_tn_ok {c : Nat} {d : Nat → Nat} (ok : cm_OK c d) : cm_OK c (cm_tn c d) := by
  refine ⟨ok.1, fun v hv => cm_lt2 (fun t ht => ?_), fun v u t hv h1 h2 => ?_⟩
  · obtain ⟨g1, g2⟩ := (cm_tn_bit ok.1).mp ht
    have := cm_up ok (c - 1 - v) (c - 1 - t) ⟨by omega, g2⟩
    omega
  · obtain ⟨a1, a2⟩ := (cm_tn_bit ok.1).mp h1
    obtain ⟨b1, b2⟩ := (cm_tn_bit ok.1).mp h2
    exact (cm_tn_bit ok.1).mpr ⟨b1, ok.2.2 _ _ _ (by omega) b2 a2⟩
-- the reference's table while it turns: rows v < i are through, of row i the columns below k
def cm_Tl (c : Nat) (d : Nat → Nat) (i k : Nat) (M : Nat → Nat) : Prop :=
  ∀ j, j < c → M j < 1024 ∧ ∀ t, (M j).testBit t = true ↔ t < c ∧ (d (c - 1 - t)).testBit (c - 1 - j) = true ∧ (c - 1 - t < i ∨ (c - 1 - t = i ∧ c - 1 - j < k))
theorem cm_Tl_0 (c : Nat) (d : Nat → Nat) {M : Nat → Nat} (h : ∀ j, j < c → M j = 0) : cm_Tl c d 0 0 M := by
  intro j hj
  rw [h j hj]
  refine ⟨by omega, fun t => ⟨fun g => by simp at g, ?_⟩⟩
  rintro ⟨_, _, g | g⟩
  · omega
  · omega
theorem cm_Tl_r {c : Nat} {d : Nat → Nat} {i : Nat} {M : Nat → Nat} (h : cm_Tl c d i c M) : cm_Tl c d (i + 1) 0 M := by
  intro j hj
  obtain ⟨h1, h2⟩ := h j hj
  refine ⟨h1, fun t => ?_⟩
  rw [h2 t]
  constructor
  · rintro ⟨g1, g2, g3⟩
    exact ⟨g1, g2, by omega⟩
  · rintro ⟨g1, g2, g3⟩
    exact ⟨g1, g2, by omega⟩
theorem cm_Tl_n {c : Nat} {d : Nat → Nat} {i k : Nat} {M : Nat → Nat} (hi : i < c) (hk : k < c) (h : cm_Tl c d i k M) (hb : (d i).testBit k = false) : cm_Tl c d i (k + 1) M := by
  intro j hj
  obtain ⟨h1, h2⟩ := h j hj
  refine ⟨h1, fun t => ?_⟩
  rw [h2 t]
  constructor
  · rintro ⟨g1, g2, g3⟩
    exact ⟨g1, g2, by omega⟩
  · rintro ⟨g1, g2, g3⟩
    refine ⟨g1, g2, ?_⟩
    by_cases e : c - 1 - t = i ∧ c - 1 - j = k
    · rw [e.1, e.2, hb] at g2
      cases g2
    · omega
theorem cm_Tl_y {c : Nat} {d : Nat → Nat} {i k : Nat} {M : Nat → Nat} (hc : c ≤ 10) (hi : i < c) (hk : k < c) (h : cm_Tl c d i k M) (hb : (d i).testBit k = true) :
    cm_Tl c d i (k + 1) (cm_ut M (c - 1 - k) (M (c - 1 - k) ||| 2 ^ (c - 1 - i))) := by
  intro j hj
  unfold cm_ut
  by_cases e : j = c - 1 - k
  · rw [if_pos e]
    obtain ⟨h1, h2⟩ := h (c - 1 - k) (by omega)
    refine ⟨Nat.or_lt_two_pow (n := 10) h1 (Nat.pow_lt_pow_right (by decide) (by omega)), fun t => ?_⟩
    rw [cm_or_bit, h2 t, cm_one_bit, e]
    constructor
    · rintro (⟨g1, g2, g3⟩ | g)
      · exact ⟨g1, g2, by omega⟩
      · refine ⟨by omega, ?_, by omega⟩
        rw [show c - 1 - t = i by omega, show c - 1 - (c - 1 - k) = k by omega]
        exact hb
    · rintro ⟨g1, g2, g3⟩
      by_cases f : c - 1 - t = i
      · right; omega
      · left; exact ⟨g1, g2, by omega⟩
  · rw [if_neg e]
    obtain ⟨h1, h2⟩ := h j hj
    refine ⟨h1, fun t => ?_⟩
    rw [h2 t]
    constructor
    · rintro ⟨g1, g2, g3⟩
      exact ⟨g1, g2, by omega⟩
    · rintro ⟨g1, g2, g3⟩
      exact ⟨g1, g2, by omega⟩
theorem cm_Tl_e {c : Nat} {d : Nat → Nat} {M : Nat → Nat} (hc : c ≤ 10) (h : cm_Tl c d c 0 M) : ∀ j, j < c → M j = cm_tn c d j := by
  intro j hj
  apply cm_ext
  intro t
  rw [(h j hj).2 t, cm_tn_bit hc]
  constructor
  · rintro ⟨g1, g2, g3⟩
    exact ⟨g1, g2⟩
  · rintro ⟨g1, g2⟩
    exact ⟨g1, g2, by omega⟩

-- one element more
def cm_ud (d : Nat → Nat) (k x : Nat) : Nat → Nat := fun j => if j = k then x else d j
theorem cm_add_ok {c : Nat} {d : Nat → Nat} (ok : cm_OK c d) (hc : c < 10) {s f : Nat} (hs : s < 2 ^ c)
    (hf : ∀ t, f.testBit t = true ↔ s.testBit t = true ∨ ∃ v, v < c ∧ s.testBit v = true ∧ (d v).testBit t = true) : cm_OK (c + 1) (cm_ud d c f) := by
  have hfc : f < 2 ^ c := cm_lt2 (fun t ht => by
    rcases (hf t).mp ht with h | ⟨v, h1, h2, h3⟩
    · exact cm_hi2 hs h
    · have := cm_up ok t v ⟨h1, h3⟩
      omega)
  refine ⟨by omega, fun v hv => ?_, fun v u t hv h1 h2 => ?_⟩
  · unfold cm_ud
    by_cases e : v = c
    · rw [if_pos e, e]; exact hfc
    · rw [if_neg e]; exact ok.2.1 v (by omega)
  · by_cases e : v = c
    · subst e
      have e1 : cm_ud d v f v = f := if_pos rfl
      rw [e1] at h1 ⊢
      have hu := cm_hi2 hfc h1
      have e2 : cm_ud d v f u = d u := if_neg (by omega)
      rw [e2] at h2
      rw [hf]
      rcases (hf u).mp h1 with h | ⟨w, g1, g2, g3⟩
      · exact Or.inr ⟨u, hu, h, h2⟩
      · exact Or.inr ⟨w, g1, g2, ok.2.2 w u t g1 g3 h2⟩
    · have e1 : cm_ud d c f v = d v := if_neg e
      rw [e1] at h1 ⊢
      have hu := cm_up ok u v ⟨by omega, h1⟩
      have e2 : cm_ud d c f u = d u := if_neg (by omega)
      rw [e2] at h2
      exact ok.2.2 v u t (by omega) h1 h2
theorem cm_less_ok {c : Nat} {d : Nat → Nat} (ok : cm_OK (c + 1) d) : cm_OK c d :=
  ⟨by have := ok.1; omega, fun v hv => ok.2.1 v (by omega), fun v u t hv => ok.2.2 v u t (by omega)⟩

-- the highest of the largest antichains
theorem cm_hi_eq {lt : Nat → Nat → Prop} (tr : ∀ a b c, lt a b → lt b c → lt a c) (ir : ∀ a, ¬ lt a a) {S w U : Nat} (hS : S < 1024)
    (ub : ∀ A, cm_Sub A S → cm_Anti lt A → cm_pc 10 A ≤ w) (ex : ∃ A, cm_Lg lt S w A)
    (hU : ∀ v, U.testBit v = true ↔ ∃ A, cm_Lg lt S w A ∧ A.testBit v = true) :
    cm_Lg lt S w (cm_mn (fun a b => lt b a) U) ∧ ∀ L, cm_Lg lt S w L →
      ((∀ B, cm_Lg lt S w B → ∀ v, L.testBit v = true → B.testBit v = true ∨ ∃ b, B.testBit b = true ∧ lt b v) ↔ L = cm_mn (fun a b => lt b a) U) := by
  obtain ⟨A0, hA0⟩ := ex
  have h := cm_low_eq (lt := fun a b => lt b a) (S := S) (w := w) (U := U) (fun a b c h1 h2 => tr c b a h2 h1) ir hS
    (fun A h1 h2 => ub A h1 (fun u v hu hv => h2 v u hv hu)) ⟨A0, cm_lg_flip.mpr hA0⟩
    (fun v => by
      rw [hU v]
      constructor
      · rintro ⟨A, hA, g⟩
        exact ⟨A, cm_lg_flip.mpr hA, g⟩
      · rintro ⟨A, hA, g⟩
        exact ⟨A, cm_lg_flip.mp hA, g⟩)
  refine ⟨cm_lg_flip.mp h.1, fun L hL => ?_⟩
  rw [← h.2 L (cm_lg_flip.mpr hL)]
  exact ⟨fun g B hB v hv => g B (cm_lg_flip.mp hB) v hv, fun g B hB v hv => g B (cm_lg_flip.mpr hB) v hv⟩
