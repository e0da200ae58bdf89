-- the component's helpers, each against its pure picture
theorem cm_exs {P : Nat → Prop} {i : Nat} : (∃ v, v < i + 1 ∧ P v) ↔ (∃ v, v < i ∧ P v) ∨ P i := by
  constructor
  · rintro ⟨v, h1, h2⟩
    by_cases e : v = i
    · subst e; exact Or.inr h2
    · exact Or.inl ⟨v, by omega, h2⟩
  · rintro (⟨v, h1, h2⟩ | h)
    · exact ⟨v, by omega, h2⟩
    · exact ⟨i, by omega, h⟩
theorem cm_add_y {Q : Nat → Prop} {i t : Nat} (hQ : Q i) : (t < i ∧ Q t) ∨ i = t ↔ t < i + 1 ∧ Q t := by
  constructor
  · rintro (⟨h1, h2⟩ | h)
    · exact ⟨by omega, h2⟩
    · subst h; exact ⟨by omega, hQ⟩
  · rintro ⟨h1, h2⟩
    by_cases e : i = t
    · exact Or.inr e
    · exact Or.inl ⟨by omega, h2⟩
theorem cm_add_n {Q : Nat → Prop} {i t : Nat} (hQ : ¬ Q i) : t < i ∧ Q t ↔ t < i + 1 ∧ Q t := by
  constructor
  · rintro ⟨h1, h2⟩
    exact ⟨by omega, h2⟩
  · rintro ⟨h1, h2⟩
    by_cases e : t = i
    · subst e; exact absurd h2 hQ
    · exact ⟨by omega, h2⟩
theorem cm_c1 {c i : Nat} (hi : i < c) : (nI c - 1) - nI i = nI (c - 1 - i) := by
  have h1 : nI c - 1 = nI (c - 1) := pk_sub (b := 1) (by omega)
  rw [h1, pk_sub (by omega)]
theorem cm_nb {s v : Nat} (h : ¬ s.testBit v = true) : s.testBit v = false := by
  cases e : s.testBit v with
  | true => exact absurd e h
  | false => rfl
theorem cm_lte {A i : Nat} (h : A < i + 1) : A < i ∨ A = i := by omega

theorem cx_has {post : Int32 → Prop} {s v : Nat} (hs : s < 2 ^ 31) (hv : v < 32)
    (h1 : s.testBit v = true → post 1) (h0 : s.testBit v = false → post 0) : wpX_has post (nI s) (nI v) :=
  br_c (fun h => h0 ((cm_b0 hs hv).mp h)) (fun h => h1 (by
    cases e : s.testBit v with
    | true => rfl
    | false => exact absurd ((cm_b0 hs hv).mpr e) h))
theorem cx_set_n {post : Int32 → Prop} {c : Nat} {a b : Nat → Int32} (hc : c ≤ 10) {x : Int32} (h : x < 0 ∨ nI (2 ^ c) ≤ x) (hp : post 0) :
    wpX_isSetOfOrder post (nI c, a, b) x := by
  unfold wpX_isSetOfOrder
  dsimp only
  rw [cm_shl hc]
  by_cases h0 : x < 0
  · exact br_t h0 hp
  · exact br_f h0 (br_t (h.resolve_left h0) hp)
theorem cx_set_y {post : Int32 → Prop} {c : Nat} {a b : Nat → Int32} (hc : c ≤ 10) {s : Nat} (hs : s < 2 ^ c) (hp : post 1) :
    wpX_isSetOfOrder post (nI c, a, b) (nI s) := by
  have h2 := cm_p2 hc
  unfold wpX_isSetOfOrder
  dsimp only
  rw [cm_shl hc]
  exact br_f (nI_pos (by omega)) (br_f (nI_ge hs (by omega)) hp)
theorem cx_elt_n {post : Int32 → Prop} {c : Nat} {a b : Nat → Int32} {x : Int32} (h : x < 0 ∨ nI c ≤ x) (hp : post 0) :
    wpX_isElement post (nI c, a, b) x := by
  unfold wpX_isElement
  dsimp only
  by_cases h0 : x < 0
  · exact br_t h0 hp
  · exact br_f h0 (br_t (h.resolve_left h0) hp)
theorem cx_elt_y {post : Int32 → Prop} {c : Nat} {a b : Nat → Int32} (hc : c ≤ 10) {v : Nat} (hv : v < c) (hp : post 1) :
    wpX_isElement post (nI c, a, b) (nI v) := by
  unfold wpX_isElement
  dsimp only
  exact br_f (nI_pos (by omega)) (br_f (nI_ge hv (by omega)) hp)

theorem cx_eb {post : Int32 → Prop} {c : Nat} {d : Nat → Nat} {a b : Nat → Int32} (ok : cm_OK c d) (ha : ∀ j, j < c → a j = nI (d j)) {s : Nat} (hs : s < 2 ^ c)
    (hp : ∀ f, f < 2 ^ c → (∀ t, f.testBit t = true ↔ ∃ v, v < c ∧ s.testBit v = true ∧ (d v).testBit t = true) → post (nI f)) :
    wpX_everythingBelow post (nI c, a, b) (nI s) := by
  have h2 := cm_p2 ok.1
  have hc := ok.1
  refine loop_0 (fun n i f => wX_everythingBelow_4 post (nI s) (nI c) a b n (nI f) (nI i))
    (fun i f => ∀ t, f.testBit t = true ↔ ∃ v, v < i ∧ s.testBit v = true ∧ (d v).testBit t = true) c 0 ?_ ?_ ?_
  · refine fun t => ⟨fun h => by simp at h, ?_⟩
    rintro ⟨v, hv, _⟩
    exact absurd hv (Nat.not_lt_zero v)
  · intro n f hI
    refine br_t (nI_le (Nat.le_refl c) (by omega)) (hp f (cm_lt2 (fun t ht => ?_)) hI)
    obtain ⟨v, g1, g2, g3⟩ := (hI t).mp ht
    have := cm_up ok t v ⟨g1, g3⟩
    omega
  · intro n i f hi hI hk
    refine br_f (nI_ge hi (by omega)) (cx_has (by omega) (by omega) (fun hb => ?_) (fun hb => ?_))
    · refine br_f (by decide) ⟨vp_in_nI (by omega) (by omega), nm_r ?_ (nm_r (nI_1 i) (hk (f ||| d i) ?_))⟩
      · rw [nI_clamp (by omega), ha i hi, cm_or]
      · intro t
        rw [cm_or_bit, hI t, cm_exs]
        simp [hb]
    · refine br_t rfl (nm_r (nI_1 i) (hk f ?_))
      intro t
      rw [hI t, cm_exs]
      simp [hb]
theorem cx_ea {post : Int32 → Prop} {c : Nat} {d : Nat → Nat} {a b : Nat → Int32} (ok : cm_OK c d) (ha : ∀ j, j < c → a j = nI (d j)) {u : Nat} (hu : u < c)
    (hp : ∀ f, (∀ t, f.testBit t = true ↔ t < c ∧ (d t).testBit u = true) → post (nI f)) :
    wpX_everythingAbove post (nI c, a, b) (nI u) := by
  have hc := ok.1
  refine loop_0 (fun n i f => wX_everythingAbove_4 post (nI u) (nI c) a b n (nI f) (nI i))
    (fun i f => ∀ t, f.testBit t = true ↔ t < i ∧ (d t).testBit u = true) c 0 ?_ ?_ ?_
  · exact fun t => ⟨fun h => by simp at h, fun h => absurd h.1 (Nat.not_lt_zero t)⟩
  · intro n f hI
    exact br_t (nI_le (Nat.le_refl c) (by omega)) (hp f hI)
  · intro n i f hi hI hk
    have hd := cm_dk ok hi
    refine br_f (nI_ge hi (by omega)) ⟨vp_in_nI (by omega) (by omega), ?_⟩
    rw [nI_clamp (by omega), ha i hi]
    refine cx_has (by omega) (by omega) (fun hb => ?_) (fun hb => ?_)
    · refine br_f (by decide) (nm_r ?_ (nm_r (nI_1 i) (hk (f ||| 2 ^ i) ?_)))
      · rw [cm_shl (by omega), cm_or]
      · intro t
        rw [cm_or_bit, cm_one_bit, hI t]
        exact cm_add_y (Q := fun t => (d t).testBit u = true) hb
    · refine br_t rfl (nm_r (nI_1 i) (hk f ?_))
      intro t
      rw [hI t]
      exact cm_add_n (Q := fun t => (d t).testBit u = true) (by rw [hb]; decide)
theorem cx_mi {post : Int32 → Prop} {c : Nat} {a b : Nat → Int32} (hc : c ≤ 10) {s : Nat} (hs : s < 2 ^ c)
    (hp : ∀ f, (∀ t, f.testBit t = true ↔ ∃ v, v < c ∧ s.testBit v = true ∧ c - 1 - v = t) → post (nI f)) :
    wpX_mirrored post (nI c, a, b) (nI s) := by
  have h2 := cm_p2 hc
  refine loop_0 (fun n i f => wX_mirrored_4 post (nI s) (nI c) a b n (nI f) (nI i))
    (fun i f => ∀ t, f.testBit t = true ↔ ∃ v, v < i ∧ s.testBit v = true ∧ c - 1 - v = t) c 0 ?_ ?_ ?_
  · refine fun t => ⟨fun h => by simp at h, ?_⟩
    rintro ⟨v, hv, _⟩
    exact absurd hv (Nat.not_lt_zero v)
  · intro n f hI
    exact br_t (nI_le (Nat.le_refl c) (by omega)) (hp f hI)
  · intro n i f hi hI hk
    refine br_f (nI_ge hi (by omega)) (cx_has (by omega) (by omega) (fun hb => ?_) (fun hb => ?_))
    · refine br_f (by decide) (nm_r ?_ (nm_r (nI_1 i) (hk (f ||| 2 ^ (c - 1 - i)) ?_)))
      · rw [cm_c1 hi, cm_shl (by omega), cm_or]
      · intro t
        rw [cm_or_bit, cm_one_bit, hI t, cm_exs]
        simp [hb]
    · refine br_t rfl (nm_r (nI_1 i) (hk f ?_))
      intro t
      rw [hI t, cm_exs]
      simp [hb]
theorem cx_mn {post : Int32 → Prop} {c : Nat} {d : Nat → Nat} {a b : Nat → Int32} (ok : cm_OK c d) (ha : ∀ j, j < c → a j = nI (d j)) {s : Nat} (hs : s < 2 ^ c)
    (hp : post (nI (cm_mn (cm_L c d) s))) : wpX_minimalElements post (nI c, a, b) (nI s) := by
  have h2 := cm_p2 ok.1
  have hc := ok.1
  refine loop_0 (fun n i f => wX_minimalElements_4 post (nI s) (nI c) a b n (nI f) (nI i))
    (fun i f => ∀ t, f.testBit t = true ↔ t < i ∧ (s.testBit t = true ∧ d t &&& s = 0)) c 0 ?_ ?_ ?_
  · exact fun t => ⟨fun h => by simp at h, fun h => absurd h.1 (Nat.not_lt_zero t)⟩
  · intro n f hI
    refine br_t (nI_le (Nat.le_refl c) (by omega)) ?_
    rw [cm_mn_eq hc hs hI]
    exact hp
  · intro n i f hi hI hk
    have hd := cm_dk ok hi
    refine br_f (nI_ge hi (by omega)) (cx_has (by omega) (by omega) (fun hb => ?_) (fun hb => ?_))
    · refine br_f (by decide) ⟨vp_in_nI (by omega) (by omega), ?_⟩
      rw [nI_clamp (by omega), ha i hi]
      refine br_c (fun h => nm_r ?_ (nm_r (nI_1 i) (hk (f ||| 2 ^ i) ?_))) (fun h => nm_r (nI_1 i) (hk f ?_))
      · rw [cm_shl (by omega), cm_or]
      · intro t
        rw [cm_or_bit, cm_one_bit, hI t]
        exact cm_add_y (Q := fun t => s.testBit t = true ∧ d t &&& s = 0) ⟨hb, (cm_and0 hd).mp h⟩
      · intro t
        rw [hI t]
        exact cm_add_n (Q := fun t => s.testBit t = true ∧ d t &&& s = 0) (fun g => h ((cm_and0 hd).mpr g.2))
    · refine br_t rfl (nm_r (nI_1 i) (hk f ?_))
      intro t
      rw [hI t]
      exact cm_add_n (Q := fun t => s.testBit t = true ∧ d t &&& s = 0) (fun g => by rw [hb] at g; cases g.1)
theorem cx_count {post : Int32 → Prop} {s : Nat} (hs : s < 2 ^ 31) (hp : post (nI (cm_pc 10 s))) : wpX_count post (nI s) := by
  refine loop_0 (fun n i f => wX_count_4 post (nI s) n (nI f) (nI i)) (fun i f => f = cm_pc i s) 10 0 ?_ ?_ ?_
  · rfl
  · intro n f hI
    rw [hI]
    exact br_t (nI_le (Nat.le_refl 10) (by decide)) hp
  · intro n i f hi hI hk
    refine br_f (nI_ge (b := 10) hi (by decide)) (nm_r ?_ (nm_r (nI_1 i) (hk (f + (s.testBit i).toNat) ?_)))
    · rw [cm_shr hs (by omega), nI_add]
    · rw [hI]; rfl
theorem cx_anti {post : Int32 → Prop} {c : Nat} {d : Nat → Nat} {a b : Nat → Int32} (ok : cm_OK c d) (ha : ∀ j, j < c → a j = nI (d j)) {s : Nat} (hs : s < 2 ^ c)
    (h1 : cm_Anti (cm_L c d) s → post 1) (h0 : ¬ cm_Anti (cm_L c d) s → post 0) : wpX_isAntichain post (nI c, a, b) (nI s) := by
  have h2 := cm_p2 ok.1
  unfold wpX_isAntichain
  dsimp only
  refine cx_eb ok ha hs (fun f hf hb => ?_)
  have e : nI f &&& nI s = 0 ↔ cm_Anti (cm_L c d) s := (cm_and0 (by omega)).trans (cm_anti_eb hs hb)
  exact ⟨fun h => h1 (e.mp h), fun h => h0 (fun g => h (e.mpr g))⟩
theorem cx_size {post : Int32 → Prop} {c : Nat} {d : Nat → Nat} {a b : Nat → Int32} (ok : cm_OK c d) (ha : ∀ j, j < c → a j = nI (d j)) {s : Nat} (hs : s < 2 ^ c)
    (hp : ∀ w, cm_Wd (cm_L c d) s w → post (nI w)) : wpX_sizeOfLargestAntichain post (nI c, a, b) (nI s) := by
  have h2 := cm_p2 ok.1
  have hc := ok.1
  unfold wpX_sizeOfLargestAntichain
  dsimp only
  refine nm_r (cm_shl hc) ?_
  refine loop_0 (fun n i f => wX_sizeOfLargestAntichain_12 post (nI s) (nI (2 ^ c)) (nI c) a b n (nI f) (nI i))
    (fun i f => cm_Wg (fun A => cm_Sub A s ∧ cm_Anti (cm_L c d) A) (fun A => A < i) f) (2 ^ c) 0 ?_ ?_ ?_
  · exact cm_Wg_0 ⟨cm_Sub0 s, cm_Anti0 _⟩ (fun A => Nat.not_lt_zero A)
  · intro n f hI
    exact br_t (nI_le (Nat.le_refl _) (by omega)) (hp f (cm_Wd_of hI (fun A hA => Nat.lt_of_le_of_lt (cm_sub_le hA) hs)))
  · intro n i f hi hI hk
    have hf := cm_Wg_le hI
    have hpc := cm_pc_le 10 i
    refine br_f (nI_ge hi (by omega)) (br_c (fun h => ?_) (fun h => ?_))
    · have hsub := (cm_sub0 (by omega)).mp h
      refine cx_anti ok ha hi (fun g => ?_) (fun g => ?_)
      · refine br_f (by decide) (cx_count (by omega) ?_)
        exact pk_le (cm_pc 10 i) f (fun g2 => nm_r (nI_1 i) (hk f (cm_Wg_no i hI (fun A hA _ => cm_lte hA) (fun _ => g2))))
          (fun g2 => nm_r (nI_1 i) (hk (cm_pc 10 i) (cm_Wg_yes i hI (fun A hA _ => cm_lte hA) ⟨hsub, g⟩ (by omega))))
      · exact br_t rfl (nm_r (nI_1 i) (hk f (cm_Wg_no i hI (fun A hA _ => cm_lte hA) (fun z => absurd z.2 g))))
    · have hsub : ¬ cm_Sub i s := fun z => h ((cm_sub0 (by omega)).mpr z)
      exact nm_r (nI_1 i) (hk f (cm_Wg_no i hI (fun A hA _ => cm_lte hA) (fun z => absurd z.1 hsub)))
theorem cx_long {post : Int32 → Prop} {c : Nat} {d : Nat → Nat} {a b : Nat → Int32} (ok : cm_OK c d) (ha : ∀ j, j < c → a j = nI (d j)) {s : Nat} (hs : s < 2 ^ c)
    (hp : ∀ w, cm_Lc (cm_L c d) s w → post (nI w)) : ∃ n, wX_longestChain_17 post (nI c) a b n (nI s) 0 0 := by
  have h2 := cm_p2 ok.1
  refine loop_0 (fun n i R => wX_longestChain_17 post (nI c) a b n (nI R) (nI i) (nI i)) (fun i R => cm_Ly (cm_L c d) s i R) 10 s ?_ ?_ ?_
  · exact cm_Ly_0 _ s
  · intro n R hI
    have e := cm_Ly_10 (by omega) hI
    subst e
    exact br_t (nI_le (Nat.le_refl 10) (by decide)) (hp 10 (cm_Ly_e hI))
  · intro n i R hi hI hk
    have hR : R ≤ s := hI.1
    refine br_f (nI_ge (b := 10) hi (by decide)) (br_c (fun h => ?_) (fun h => ?_))
    · have e := (cm_nI0 (by omega)).mp h
      subst e
      exact hp i (cm_Ly_e hI)
    · have hne : R ≠ 0 := fun e => h ((cm_nI0 (by omega)).mpr e)
      refine cx_mn ok ha (by omega) ?_
      exact nm_r (cm_not (by omega)) (nm_r (nI_1 i) (nm_r (nI_1 i) (hk _ (cm_Ly_s (cm_tr ok) (cm_up ok) (by omega) hI hne))))
theorem cx_union {post : Int32 → Prop} {c : Nat} {d : Nat → Nat} {a b : Nat → Int32} (ok : cm_OK c d) (ha : ∀ j, j < c → a j = nI (d j))
    (hp : ∀ w U, cm_Wd (cm_L c d) (2 ^ c - 1) w → U < 2 ^ c → (∀ v, U.testBit v = true ↔ ∃ A, cm_Lg (cm_L c d) (2 ^ c - 1) w A ∧ A.testBit v = true) → post (nI U)) :
    wpX_unionOfLargest post (nI c, a, b) := by
  have h2 := cm_p2 ok.1
  have hc := ok.1
  unfold wpX_unionOfLargest
  dsimp only
  refine nm_r (cm_shl hc) ?_
  refine loop_0 (σ := Nat × Nat) (fun n i s => wX_unionOfLargest_14 post (nI (2 ^ c)) (nI c) a b n (nI s.1) (nI s.2) (nI i))
    (fun i s => cm_Un (fun A => cm_Sub A (2 ^ c - 1) ∧ cm_Anti (cm_L c d) A) i s.1 s.2) (2 ^ c) (0, 0) ?_ ?_ ?_
  · exact cm_Un_0 ⟨cm_Sub0 _, cm_Anti0 _⟩
  · rintro n ⟨w, U⟩ hI
    have hU : ∀ v, U.testBit v = true ↔ ∃ A, cm_Lg (cm_L c d) (2 ^ c - 1) w A ∧ A.testBit v = true := by
      intro v
      rw [hI.2 v]
      constructor
      · rintro ⟨A, g1, g2, g3, g4⟩
        exact ⟨A, ⟨g2.1, g2.2, g3⟩, g4⟩
      · rintro ⟨A, g1, g2⟩
        exact ⟨A, cm_fs.mp g1.1, ⟨g1.1, g1.2.1⟩, g1.2.2, g2⟩
    refine br_t (nI_le (Nat.le_refl _) (by omega)) (hp w U (cm_Wd_of hI.1 (fun A hA => cm_fs.mp hA)) (cm_lt2 (fun v hv => ?_)) hU)
    obtain ⟨A, g1, g2⟩ := (hU v).mp hv
    exact cm_fb.mp (g1.1 v g2)
  · rintro n i ⟨w, U⟩ hi hI hk
    have hw := cm_Wg_le hI.1
    have hpc := cm_pc_le 10 i
    dsimp only at hw hI
    refine br_f (nI_ge hi (by omega)) (cx_count (by omega) ?_)
    refine pk_lt (cm_pc 10 i) w (fun g => nm_r (nI_1 i) (hk (w, U) (cm_Un_no hI (fun z => by have := z.1; omega)))) (fun g => ?_)
    refine cx_anti ok ha hi (fun hA => br_f (by decide) ?_) (fun hA => br_t rfl (nm_r (nI_1 i) (hk (w, U) (cm_Un_no hI (fun z => hA z.2.2)))))
    exact pk_le (cm_pc 10 i) w (fun g2 => nm_r (cm_or U i) (nm_r (nI_1 i) (hk (cm_pc 10 i, U ||| i) (cm_Un_eq hI ⟨cm_fs.mpr hi, hA⟩ (by omega)))))
      (fun g2 => nm_r (nI_1 i) (hk (cm_pc 10 i, i) (cm_Un_gt hI ⟨cm_fs.mpr hi, hA⟩ (by omega))))
