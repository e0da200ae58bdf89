-- the reference's helpers, each against its pure picture
theorem cm_pc_s (k s : Nat) : cm_pc (k + 1) s = cm_pc k s + (s.testBit k).toNat := rfl
theorem cm_nbb (z w : Bool) : nI z.toNat = nI w.toNat ↔ z = w := by
  cases z <;> cases w <;> decide
theorem cm_Wg_cg {G G' D : Nat → Prop} {b : Nat} (h : ∀ A, G A ↔ G' A) (hg : cm_Wg G D b) : cm_Wg G' D b := by
  obtain ⟨⟨A, h1, h2⟩, h3⟩ := hg
  exact ⟨⟨A, (h A).mp h1, h2⟩, fun A hA hG => h3 A hA ((h A).mpr hG)⟩
theorem cm_full {c : Nat} (hc : c ≤ 10) : ((1 : Int32) <<< (nI c &&& 31)) - 1 = nI (2 ^ c - 1) := by
  rw [cm_shl hc]
  exact pk_sub (b := 1) (Nat.two_pow_pos c)
theorem cm_full_lt (c : Nat) : 2 ^ c - 1 < 2 ^ c := by
  have := Nat.two_pow_pos c
  omega

theorem cy_in {post : Int32 → Prop} {c : Nat} {a l : Nat → Int32} {s v : Nat} (hs : s < 2 ^ 31) (hv : v < 32)
    (h1 : s.testBit v = true → post 1) (h0 : s.testBit v = false → post 0) : wpY_in post (nI c, a, l) (nI s) (nI v) := by
  unfold wpY_in
  dsimp only
  exact br_c (fun h => h1 ((cm_b1 hs hv).mp h)) (fun h => h0 (cm_nb (fun g => h ((cm_b1 hs hv).mpr g))))
theorem cy_set_n {post : Int32 → Prop} {c : Nat} {a b : Nat → Int32} (hc : c ≤ 10) {x : Int32} (h : x < 0 ∨ nI (2 ^ c) ≤ x) (hp : post 0) :
    wpY_isSet post (nI c, a, b) x := by
  unfold wpY_isSet
  dsimp only
  rw [cm_shl hc]
  by_cases h0 : x < 0
  · exact br_t h0 hp
  · exact br_f h0 (br_t (h.resolve_left h0) hp)
theorem cy_set_y {post : Int32 → Prop} {c : Nat} {a b : Nat → Int32} (hc : c ≤ 10) {s : Nat} (hs : s < 2 ^ c) (hp : post 1) :
    wpY_isSet post (nI c, a, b) (nI s) := by
  have h2 := cm_p2 hc
  unfold wpY_isSet
  dsimp only
  rw [cm_shl hc]
  exact br_f (nI_pos (by omega)) (br_f (nI_ge hs (by omega)) hp)
theorem cy_size {post : Int32 → Prop} {c : Nat} {a l : Nat → Int32} {s : Nat} (hs : s < 2 ^ 31) (hp : post (nI (cm_pc 10 s))) : wpY_sizeOf post (nI c, a, l) (nI s) := by
  refine loop_0 (fun n i f => wY_sizeOf_4 post (nI s) (nI c) a l n (nI f) (nI i)) (fun i f => f = cm_pc i s) 10 0 ?_ ?_ ?_
  · rfl
  · intro n f hI
    rw [hI]
    exact br_t (nI_le (Nat.le_refl 10) (by decide)) hp
  · intro n i f hi hI hk
    refine br_f (nI_ge (b := 10) hi (by decide)) (cy_in hs (by omega) (fun hb => ?_) (fun hb => ?_))
    · refine br_f (by decide) (nm_r (nI_1 f) (nm_r (nI_1 i) (hk (f + 1) ?_)))
      rw [cm_pc_s, hb, hI]
      rfl
    · refine br_t rfl (nm_r (nI_1 i) (hk f ?_))
      rw [cm_pc_s, hb, hI]
      rfl

-- uniform
def cm_G (c : Nat) (d : Nat → Nat) (w : Bool) (s : Nat) : Prop := ∀ v, v < c → ∀ u, u < v → s.testBit u = true → s.testBit v = true → (d v).testBit u = w
theorem cy_u54 {post J2 J13 : Int32 → Prop} {c : Nat} {a l : Nat → Int32} {s i k : Nat} {w z : Bool} (hs : s < 2 ^ 31) (hi : i < 10) (hk : k < 10)
    (hJ : (s.testBit k = true → s.testBit i = true → z = w) → J13 (nI (k + 1))) (hp : s.testBit k = true → s.testBit i = true → z ≠ w → post 0) :
    wY_uniform_54 post J2 J13 (nI s) (nI w.toNat) (nI i) (nI k) (nI z.toNat) (nI c) a l := by
  unfold wY_uniform_54
  refine cy_in hs (by omega) (fun hb => ?_) (fun hb => ?_)
  · refine br_f (by decide) (cy_in hs (by omega) (fun hb2 => ?_) (fun hb2 => ?_))
    · refine br_f (by decide) (br_c (fun h => nm_r (nI_1 k) (hJ (fun _ _ => (cm_nbb z w).mp h))) (fun h => hp hb hb2 (fun e => h ((cm_nbb z w).mpr e))))
    · exact br_t rfl (nm_r (nI_1 k) (hJ (fun _ h => by rw [hb2] at h; cases h)))
  · exact br_t rfl (nm_r (nI_1 k) (hJ (fun h => by rw [hb] at h; cases h)))
theorem cy_uni {post : Int32 → Prop} {c : Nat} {d : Nat → Nat} {a l : Nat → Int32} (ok : cm_OK c d) (ha : ∀ j, j < c → a j = nI (d j)) {s : Nat} (hs : s < 2 ^ c) (w : Bool)
    (h1 : cm_G c d w s → post 1) (h0 : ¬ cm_G c d w s → post 0) : wpY_uniform post (nI c, a, l) (nI s) (nI w.toNat) := by
  have h2 := cm_p2 ok.1
  have hc := ok.1
  refine loop_0 (σ := Unit) (fun n i _ => wY_uniform_2 post (nI s) (nI w.toNat) (nI c) a l n (nI i))
    (fun i _ => ∀ v, v < i → ∀ u, u < v → s.testBit u = true → s.testBit v = true → (d v).testBit u = w) c () ?_ ?_ ?_
  · exact fun v hv => absurd hv (Nat.not_lt_zero v)
  · intro n _ hI
    exact br_t (nI_le (Nat.le_refl c) (by omega)) (h1 hI)
  · intro n i _ hi hI hk
    have hd := cm_dk ok hi
    refine br_f (nI_ge hi (by omega)) ?_
    refine loop_0 (σ := Unit) (fun m k _ => wY_uniform_13 post (wY_uniform_2 post (nI s) (nI w.toNat) (nI c) a l n) (nI s) (nI w.toNat) (nI i) (nI c) a l m (nI k))
      (fun k _ => ∀ u, u < k → s.testBit u = true → s.testBit i = true → (d i).testBit u = w) i () ?_ ?_ ?_
    · exact fun v hv => absurd hv (Nat.not_lt_zero v)
    · intro m _ hJ
      refine br_t (nI_le (Nat.le_refl i) (by omega)) (nm_r (nI_1 i) (hk () ?_))
      intro v hv u hu
      by_cases e : v = i
      · subst e; exact hJ u hu
      · exact hI v (by omega) u hu
    · intro m k _ hki hJ hm
      have hz : wY_uniform_54 post (wY_uniform_2 post (nI s) (nI w.toNat) (nI c) a l n) (wY_uniform_13 post (wY_uniform_2 post (nI s) (nI w.toNat) (nI c) a l n) (nI s) (nI w.toNat) (nI i) (nI c) a l m)
          (nI s) (nI w.toNat) (nI i) (nI k) (nI ((d i).testBit k).toNat) (nI c) a l :=
        cy_u54 (by omega) (by omega) (by omega) (fun h => hm () (fun u hu g1 g2 => by
          by_cases e : u = k
          · subst e; exact h g1 g2
          · exact hJ u (by omega) g1 g2)) (fun g1 g2 g3 => h0 (fun hG => g3 (hG i hi k hki g1 g2)))
      refine br_f (nI_ge hki (by omega)) ⟨vp_in_nI (by omega) (by omega), ?_⟩
      rw [nI_clamp (n := i) (by omega), ha i hi]
      refine cy_in (by omega) (by omega) (fun hb => ?_) (fun hb => ?_)
      · rw [hb] at hz
        exact br_f (by decide) hz
      · rw [hb] at hz
        refine br_t rfl ⟨vp_in_nI (by omega) (by omega), ?_⟩
        rw [nI_clamp (n := k) (by omega), ha k (by omega)]
        have hdk := cm_dk ok (v := k) (by omega)
        refine cy_in (by omega) (by omega) (fun hb2 => ?_) (fun hb2 => ?_)
        · rw [cm_noabove ok hi hki] at hb2
          cases hb2
        · exact br_t rfl hz
theorem cy_anti {post : Int32 → Prop} {c : Nat} {d : Nat → Nat} {a l : Nat → Int32} (ok : cm_OK c d) (ha : ∀ j, j < c → a j = nI (d j)) {s : Nat} (hs : s < 2 ^ c)
    (h1 : cm_Anti (cm_L c d) s → post 1) (h0 : ¬ cm_Anti (cm_L c d) s → post 0) : wpY_uniform post (nI c, a, l) (nI s) 0 :=
  cy_uni ok ha hs false (fun h => h1 ((cm_uni_anti ok hs).mp h)) (fun h => h0 (fun g => h ((cm_uni_anti ok hs).mpr g)))
theorem cy_chn {post : Int32 → Prop} {c : Nat} {d : Nat → Nat} {a l : Nat → Int32} (ok : cm_OK c d) (ha : ∀ j, j < c → a j = nI (d j)) {s : Nat} (hs : s < 2 ^ c)
    (h1 : cm_Chn (cm_L c d) s → post 1) (h0 : ¬ cm_Chn (cm_L c d) s → post 0) : wpY_uniform post (nI c, a, l) (nI s) 1 :=
  cy_uni ok ha hs true (fun h => h1 ((cm_uni_chn ok hs).mp h)) (fun h => h0 (fun g => h ((cm_uni_chn ok hs).mpr g)))

-- largest
theorem cy_lg {post : Int32 → Prop} {c : Nat} {d : Nat → Nat} {a l : Nat → Int32} (ok : cm_OK c d) (ha : ∀ j, j < c → a j = nI (d j)) {S : Nat} (hS : S < 2 ^ c) (w : Bool)
    (hp : ∀ b, cm_Wg (fun A => cm_Sub A S ∧ cm_G c d w A) (fun _ => True) b → post (nI b)) : wpY_largest post (nI c, a, l) (nI S) (nI w.toNat) := by
  have h2 := cm_p2 ok.1
  have hG0 : cm_G c d w 0 := fun v _ u _ h => by simp at h
  refine lp2 (fun n b p => wY_largest_5 post (nI S) (nI w.toNat) (nI c) a l n (nI b) (nI p))
    (fun b p => cm_Sub p S ∧ cm_Wg (fun A => cm_Sub A S ∧ cm_G c d w A) (fun A => p < A) b) (fun _ p => p) ?_ 0 S ?_
  · intro n b p hI hk
    obtain ⟨hpS, hW⟩ := hI
    have hle := cm_sub_le hpS
    have hb := cm_Wg_le hW
    have hpc := cm_pc_le 10 p
    by_cases p0 : p = 0
    · subst p0
      refine br_t (nI_le (Nat.le_refl 0) (by decide)) (hp b ⟨hW.1, fun A _ hA => ?_⟩)
      by_cases e : A = 0
      · subst e
        rw [cm_pc00]
        exact Nat.zero_le b
      · exact hW.2 A (show 0 < A by omega) hA
    · have hq : cm_Sub ((p - 1) &&& S) S := fun v hv => (cm_and_bit.mp hv).2
      have hq2 : (p - 1) &&& S ≤ p - 1 := Nat.and_le_left
      have hD : ∀ A, (p - 1) &&& S < A → (cm_Sub A S ∧ cm_G c d w A) → p < A ∨ A = p := by
        intro A hA hG
        by_cases e : A < p
        · have := cm_down p S A hpS hG.1 e
          omega
        · omega
      have he : (nI p - 1) &&& nI S = nI ((p - 1) &&& S) := by
        have h1 : nI p - 1 = nI (p - 1) := pk_sub (b := 1) (by omega)
        rw [h1, nx_and]
      refine br_f (nI_nle (by omega) (by omega)) (cy_size (by omega) ?_)
      refine pk_le (cm_pc 10 p) b (fun g => nm_r he (hk b _ ⟨hq, cm_Wg_no p hW hD (fun _ => g)⟩ (by omega))) (fun g => ?_)
      refine cy_uni ok ha (by omega) w (fun hG => ?_) (fun hG => ?_)
      · exact br_f (by decide) (nm_r he (hk (cm_pc 10 p) _ ⟨hq, cm_Wg_yes p hW hD ⟨hpS, hG⟩ (by omega)⟩ (by omega)))
      · exact br_t rfl (nm_r he (hk b _ ⟨hq, cm_Wg_no p hW hD (fun z => absurd z.2 hG)⟩ (by omega)))
  · refine ⟨fun _ h => h, ⟨0, ⟨cm_Sub0 S, hG0⟩, cm_pc00⟩, fun A hA hG => ?_⟩
    have := cm_sub_le hG.1
    have hA' : S < A := hA
    omega
theorem cy_wd {post : Int32 → Prop} {c : Nat} {d : Nat → Nat} {a l : Nat → Int32} (ok : cm_OK c d) (ha : ∀ j, j < c → a j = nI (d j)) {S : Nat} (hS : S < 2 ^ c)
    (hp : ∀ b, cm_Wd (cm_L c d) S b → post (nI b)) : wpY_largest post (nI c, a, l) (nI S) 0 := by
  refine cy_lg ok ha hS false (fun b hb => hp b (cm_Wd_of (D := fun _ => True) (cm_Wg_cg (fun A => ?_) hb) (fun _ _ => trivial)))
  constructor
  · rintro ⟨h1, h2⟩
    exact ⟨h1, (cm_uni_anti ok (Nat.lt_of_le_of_lt (cm_sub_le h1) hS)).mp h2⟩
  · rintro ⟨h1, h2⟩
    exact ⟨h1, (cm_uni_anti ok (Nat.lt_of_le_of_lt (cm_sub_le h1) hS)).mpr h2⟩
theorem cy_lc {post : Int32 → Prop} {c : Nat} {d : Nat → Nat} {a l : Nat → Int32} (ok : cm_OK c d) (ha : ∀ j, j < c → a j = nI (d j)) {S : Nat} (hS : S < 2 ^ c)
    (hp : ∀ b, cm_Lc (cm_L c d) S b → post (nI b)) : wpY_largest post (nI c, a, l) (nI S) 1 := by
  refine cy_lg ok ha hS true (fun b hb => hp b (cm_Lc_of (D := fun _ => True) (cm_Wg_cg (fun A => ?_) hb) (fun _ _ => trivial)))
  constructor
  · rintro ⟨h1, h2⟩
    exact ⟨h1, (cm_uni_chn ok (Nat.lt_of_le_of_lt (cm_sub_le h1) hS)).mp h2⟩
  · rintro ⟨h1, h2⟩
    exact ⟨h1, (cm_uni_chn ok (Nat.lt_of_le_of_lt (cm_sub_le h1) hS)).mpr h2⟩
theorem cy_width {post : Int32 → Prop} {c : Nat} {d : Nat → Nat} {a l : Nat → Int32} (ok : cm_OK c d) (ha : ∀ j, j < c → a j = nI (d j)) {S w : Nat} (hS : S < 2 ^ c)
    (hw : cm_Wd (cm_L c d) S w) (hp : post (nI w)) : wpY_width post (nI c, a, l) (nI S) := by
  unfold wpY_width
  dsimp only
  refine cy_set_y ok.1 hS (br_f (by decide) (cy_wd ok ha hS (fun b hb => ?_)))
  rw [cm_Wd_un hb hw]
  exact hp
