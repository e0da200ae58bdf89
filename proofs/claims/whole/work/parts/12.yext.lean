-- the reference's list of the largest antichains, and its search of the lowest and the highest
theorem cm_fl {P : Nat → Prop} {i : Nat} {le : Nat → Int32} {x : Int32} (h : ∀ s, s < i → (le s = 1 ↔ P s)) (hx : x = 1 ↔ P i) :
    ∀ s, s < i + 1 → (upd le i x s = 1 ↔ P s) := by
  intro s hs
  by_cases e : s = i
  · subst e
    rw [pk_us]
    exact hx
  · rw [pk_un e]
    exact h s (by omega)
theorem cy_find {post : SY → Prop} {c : Nat} {d : Nat → Nat} {a l : Nat → Int32} (ok : cm_OK c d) (ha : ∀ j, j < c → a j = nI (d j)) {w : Nat}
    (hw : cm_Wd (cm_L c d) (2 ^ c - 1) w) (hp : ∀ le, (∀ s, s < 2 ^ c → (le s = 1 ↔ cm_Lg (cm_L c d) (2 ^ c - 1) w s)) → post (nI c, a, le)) :
    wpY_findLargest post (nI c, a, l) := by
  have h2 := cm_p2 ok.1
  have hc := ok.1
  have hw10 := cm_Wd_le hw
  unfold wpY_findLargest
  dsimp only
  rw [cm_full hc]
  refine cy_width ok ha (cm_full_lt c) hw ?_
  refine loop_0 (fun n i s => wY_findLargest_15 post (nI w) (nI c) n (nI i) a s)
    (fun i le => ∀ s, s < i → (le s = 1 ↔ cm_Lg (cm_L c d) (2 ^ c - 1) w s)) (2 ^ c) l ?_ ?_ ?_
  · exact fun v hv => absurd hv (Nat.not_lt_zero v)
  · intro n s hI
    exact br_t (by rw [cm_shl hc]; exact nI_le (Nat.le_refl _) (by omega)) (hp s hI)
  · intro n i s hi hI hk
    have hpc := cm_pc_le 10 i
    refine br_f (by rw [cm_shl hc]; exact nI_ge hi (by omega)) (cy_size (by omega) ?_)
    rw [nI_clamp (n := i) (by omega)]
    refine pk_eq (cm_pc 10 i) w (fun e => ?_) (fun e => ?_)
    · refine cy_anti ok ha hi (fun g => ?_) (fun g => ?_)
      · exact br_f (by decide) ⟨vp_in_nI (by omega) (by omega), nm_e (nm_r (nI_1 i) (hk _ (cm_fl hI ⟨fun _ => ⟨cm_fs.mpr hi, g, e⟩, fun _ => rfl⟩)))⟩
      · exact br_t rfl ⟨vp_in_nI (by omega) (by omega), nm_e (nm_r (nI_1 i) (hk _ (cm_fl hI ⟨fun z => absurd z (by decide), fun z => absurd z.2.1 g⟩)))⟩
    · exact ⟨vp_in_nI (by omega) (by omega), nm_e (nm_r (nI_1 i) (hk _ (cm_fl hI ⟨fun z => absurd z (by decide), fun z => absurd z.2.2 e⟩)))⟩
theorem cy_some {post : Int32 → Prop} {c : Nat} {d : Nat → Nat} {a l : Nat → Int32} (ok : cm_OK c d) (ha : ∀ j, j < c → a j = nI (d j)) {v o : Nat} (hv : v < c) (ho : o < 2 ^ c)
    (h1 : (∃ b, o.testBit b = true ∧ cm_L c d v b) → post 1) (h0 : ¬ (∃ b, o.testBit b = true ∧ cm_L c d v b) → post 0) : wpY_someAbove post (nI c, a, l) (nI v) (nI o) := by
  have h2 := cm_p2 ok.1
  have hc := ok.1
  refine loop_0 (σ := Unit) (fun n i _ => wY_someAbove_2 post (nI v) (nI o) (nI c) a l n (nI i))
    (fun i _ => ∀ b, b < i → ¬ (o.testBit b = true ∧ (d b).testBit v = true)) c () ?_ ?_ ?_
  · exact fun v hv => absurd hv (Nat.not_lt_zero v)
  · intro n _ hI
    refine br_t (nI_le (Nat.le_refl c) (by omega)) (h0 ?_)
    rintro ⟨b, g1, g2, g3⟩
    exact hI b g2 ⟨g1, g3⟩
  · intro n i _ hi hI hk
    have hd := cm_dk ok hi
    have next : ¬ (o.testBit i = true ∧ (d i).testBit v = true) → wY_someAbove_2 post (nI v) (nI o) (nI c) a l n (nI (i + 1)) := fun z => hk () (fun b hb => by
      by_cases e : b = i
      · subst e; exact z
      · exact hI b (by omega))
    refine br_f (nI_ge hi (by omega)) (cy_in (by omega) (by omega) (fun hb => ?_) (fun hb => ?_))
    · refine br_f (by decide) ⟨vp_in_nI (by omega) (by omega), ?_⟩
      rw [nI_clamp (n := i) (by omega), ha i hi]
      refine cy_in (by omega) (by omega) (fun hb2 => ?_) (fun hb2 => ?_)
      · exact br_f (by decide) (h1 ⟨i, hb, hi, hb2⟩)
      · exact br_t rfl (nm_r (nI_1 i) (next (fun z => by rw [hb2] at z; cases z.2)))
    · exact br_t rfl (nm_r (nI_1 i) (next (fun z => by rw [hb] at z; cases z.1)))
def cm_Ab (c : Nat) (d : Nat → Nat) (low : Bool) (s o : Nat) : Prop :=
  ∀ v, s.testBit v = true → o.testBit v = true ∨ ∃ b, o.testBit b = true ∧ cond low (cm_L c d v b) (cm_L c d b v)
theorem cy_bel {post : Int32 → Prop} {c : Nat} {d : Nat → Nat} {a l : Nat → Int32} (ok : cm_OK c d) (ha : ∀ j, j < c → a j = nI (d j)) {s o : Nat} (hs : s < 2 ^ c) (ho : o < 2 ^ c)
    (h1 : cm_Ab c d true s o → post 1) (h0 : ¬ cm_Ab c d true s o → post 0) : wpY_allBelow post (nI c, a, l) (nI s) (nI o) := by
  have h2 := cm_p2 ok.1
  have hc := ok.1
  refine loop_0 (σ := Unit) (fun n i _ => wY_allBelow_2 post (nI s) (nI o) (nI c) a l n (nI i))
    (fun i _ => ∀ v, v < i → s.testBit v = true → o.testBit v = true ∨ ∃ b, o.testBit b = true ∧ cm_L c d v b) c () ?_ ?_ ?_
  · exact fun v hv => absurd hv (Nat.not_lt_zero v)
  · intro n _ hI
    exact br_t (nI_le (Nat.le_refl c) (by omega)) (h1 (fun v hv => hI v (cm_hi2 hs hv) hv))
  · intro n i _ hi hI hk
    have next : (s.testBit i = true → o.testBit i = true ∨ ∃ b, o.testBit b = true ∧ cm_L c d i b) → wY_allBelow_2 post (nI s) (nI o) (nI c) a l n (nI (i + 1)) := fun z => hk () (fun b hb => by
      by_cases e : b = i
      · subst e; exact z
      · exact hI b (by omega))
    refine br_f (nI_ge hi (by omega)) (cy_in (by omega) (by omega) (fun hb => ?_) (fun hb => ?_))
    · refine br_f (by decide) (cy_in (by omega) (by omega) (fun hb2 => ?_) (fun hb2 => ?_))
      · exact br_f (by decide) (nm_r (nI_1 i) (next (fun _ => Or.inl hb2)))
      · refine br_t rfl (cy_some ok ha hi ho (fun g => ?_) (fun g => ?_))
        · exact br_f (by decide) (nm_r (nI_1 i) (next (fun _ => Or.inr g)))
        · refine br_t rfl (h0 (fun z => ?_))
          rcases z i hb with y | y
          · rw [hb2] at y; cases y
          · exact g y
    · exact br_t rfl (nm_r (nI_1 i) (next (fun z => by rw [hb] at z; cases z)))
theorem cy_abo {post : Int32 → Prop} {c : Nat} {d : Nat → Nat} {a l : Nat → Int32} (ok : cm_OK c d) (ha : ∀ j, j < c → a j = nI (d j)) {s o : Nat} (hs : s < 2 ^ c) (ho : o < 2 ^ c)
    (h1 : cm_Ab c d false s o → post 1) (h0 : ¬ cm_Ab c d false s o → post 0) : wpY_allAbove post (nI c, a, l) (nI s) (nI o) := by
  have h2 := cm_p2 ok.1
  have hc := ok.1
  refine loop_0 (σ := Unit) (fun n i _ => wY_allAbove_2 post (nI s) (nI o) (nI c) a l n (nI i))
    (fun i _ => ∀ v, v < i → s.testBit v = true → o.testBit v = true ∨ ∃ b, o.testBit b = true ∧ cm_L c d b v) c () ?_ ?_ ?_
  · exact fun v hv => absurd hv (Nat.not_lt_zero v)
  · intro n _ hI
    exact br_t (nI_le (Nat.le_refl c) (by omega)) (h1 (fun v hv => hI v (cm_hi2 hs hv) hv))
  · intro n i _ hi hI hk
    have hd := cm_dk ok hi
    have next : (s.testBit i = true → o.testBit i = true ∨ ∃ b, o.testBit b = true ∧ cm_L c d b i) → wY_allAbove_2 post (nI s) (nI o) (nI c) a l n (nI (i + 1)) := fun z => hk () (fun b hb => by
      by_cases e : b = i
      · subst e; exact z
      · exact hI b (by omega))
    refine br_f (nI_ge hi (by omega)) (cy_in (by omega) (by omega) (fun hb => ?_) (fun hb => ?_))
    · refine br_f (by decide) (cy_in (by omega) (by omega) (fun hb2 => ?_) (fun hb2 => ?_))
      · exact br_f (by decide) (nm_r (nI_1 i) (next (fun _ => Or.inl hb2)))
      · refine br_t rfl ⟨vp_in_nI (by omega) (by omega), ?_⟩
        rw [nI_clamp (n := i) (by omega), ha i hi]
        refine br_c (fun g => h0 (fun z => ?_)) (fun g => nm_r (nI_1 i) (next (fun _ => Or.inr ?_)))
        · rcases z i hb with y | ⟨b, y1, y2⟩
          · rw [hb2] at y; cases y
          · exact cm_and0'.mp ((cm_and0 hd).mp g) b y2.2 y1
        · apply Classical.byContradiction
          intro hn
          exact g ((cm_and0 hd).mpr (cm_and0'.mpr (fun b y1 y2 => hn ⟨b, y2, hi, y1⟩)))
    · exact br_t rfl (nm_r (nI_1 i) (next (fun z => by rw [hb] at z; cases z)))
theorem cy_isx {post : Int32 → Prop} {c : Nat} {d : Nat → Nat} {a le : Nat → Int32} (ok : cm_OK c d) (ha : ∀ j, j < c → a j = nI (d j)) {s : Nat} (hs : s < 2 ^ c) (low : Bool)
    (h1 : (∀ o, o < 2 ^ c → le o = 1 → cm_Ab c d low s o) → post 1) (h0 : ¬ (∀ o, o < 2 ^ c → le o = 1 → cm_Ab c d low s o) → post 0) :
    wpY_isExtreme post (nI c, a, le) (nI s) (nI low.toNat) := by
  have h2 := cm_p2 ok.1
  have hc := ok.1
  refine loop_0 (σ := Unit) (fun n i _ => wY_isExtreme_2 post (nI s) (nI low.toNat) (nI c) a le n (nI i))
    (fun i _ => ∀ o, o < i → le o = 1 → cm_Ab c d low s o) (2 ^ c) () ?_ ?_ ?_
  · exact fun v hv => absurd hv (Nat.not_lt_zero v)
  · intro n _ hI
    exact br_t (by rw [cm_shl hc]; exact nI_le (Nat.le_refl _) (by omega)) (h1 hI)
  · intro n i _ hi hI hk
    have next : (le i = 1 → cm_Ab c d low s i) → wY_isExtreme_2 post (nI s) (nI low.toNat) (nI c) a le n (nI (i + 1)) := fun z => hk () (fun b hb => by
      by_cases e : b = i
      · subst e; exact z
      · exact hI b (by omega))
    refine br_f (by rw [cm_shl hc]; exact nI_ge hi (by omega)) ⟨vp_in_nI (by omega) (by omega), ?_⟩
    rw [nI_clamp (n := i) (by omega)]
    refine br_c (fun e => ?_) (fun e => nm_r (nI_1 i) (next (fun z => absurd z e)))
    cases low with
    | false =>
      refine br_t rfl (cy_abo ok ha hs hi (fun g => ?_) (fun g => ?_))
      · exact br_f (by decide) (nm_r (nI_1 i) (next (fun _ => g)))
      · exact br_t rfl (h0 (fun z => g (z i hi e)))
    | true =>
      refine br_f (by decide) (cy_bel ok ha hs hi (fun g => ?_) (fun g => ?_))
      · exact br_f (by decide) (nm_r (nI_1 i) (next (fun _ => g)))
      · exact br_t rfl (h0 (fun z => g (z i hi e)))
theorem cy_ext {post : Int32 → SY → Prop} {c : Nat} {d : Nat → Nat} {a l : Nat → Int32} (ok : cm_OK c d) (ha : ∀ j, j < c → a j = nI (d j)) {w M : Nat} (low : Bool)
    (hw : cm_Wd (cm_L c d) (2 ^ c - 1) w) (hM : cm_Lg (cm_L c d) (2 ^ c - 1) w M)
    (hx : ∀ L, cm_Lg (cm_L c d) (2 ^ c - 1) w L → ((∀ B, cm_Lg (cm_L c d) (2 ^ c - 1) w B → cm_Ab c d low L B) ↔ L = M))
    (hp : ∀ le, post (nI M) (nI c, a, le)) : wpY_extreme post (nI c, a, l) (nI low.toNat) := by
  have h2 := cm_p2 ok.1
  have hc := ok.1
  unfold wpY_extreme
  dsimp only
  refine cy_find ok ha hw (fun le hle => ?_)
  dsimp only
  have hMc : M < 2 ^ c := cm_fs.mp hM.1
  have ext : ∀ L, (∀ o, o < 2 ^ c → le o = 1 → cm_Ab c d low L o) ↔ ∀ B, cm_Lg (cm_L c d) (2 ^ c - 1) w B → cm_Ab c d low L B := fun L =>
    ⟨fun h B hB => h B (cm_fs.mp hB.1) ((hle B (cm_fs.mp hB.1)).mpr hB), fun h o ho he => h o ((hle o ho).mp he)⟩
  refine loop_0 (σ := Unit) (fun n i _ => wY_extreme_6 post (nI low.toNat) (nI c) a le n (nI i)) (fun _ _ => True) M () trivial ?_ ?_
  · intro n _ _
    refine br_f (by rw [cm_shl hc]; exact nI_ge hMc (by omega)) ⟨vp_in_nI (by omega) (by omega), ?_⟩
    rw [nI_clamp (n := M) (by omega)]
    refine br_t ((hle M hMc).mpr hM) (cy_isx ok ha hMc low (fun _ => br_f (by decide) (hp le)) (fun g => ?_))
    exact absurd ((ext M).mpr ((hx M hM).mpr rfl)) g
  · intro n i _ hi _ hk
    have hic : i < 2 ^ c := by omega
    refine br_f (by rw [cm_shl hc]; exact nI_ge hic (by omega)) ⟨vp_in_nI (by omega) (by omega), ?_⟩
    rw [nI_clamp (n := i) (by omega)]
    refine br_c (fun e => ?_) (fun e => nm_r (nI_1 i) (hk () trivial))
    refine cy_isx ok ha hic low (fun g => ?_) (fun _ => br_t rfl (nm_r (nI_1 i) (hk () trivial)))
    have := (hx i ((hle i hic).mp e)).mp ((ext i).mp g)
    omega
theorem cy_ins {post : Int32 → SY → Prop} {c : Nat} {d : Nat → Nat} {a l : Nat → Int32} (ok : cm_OK c d) (ha : ∀ j, j < c → a j = nI (d j)) {w v : Nat} (hv : v < c)
    (hw : cm_Wd (cm_L c d) (2 ^ c - 1) w)
    (h1 : (∃ A, cm_Lg (cm_L c d) (2 ^ c - 1) w A ∧ A.testBit v = true) → ∀ le, post 1 (nI c, a, le))
    (h0 : ¬ (∃ A, cm_Lg (cm_L c d) (2 ^ c - 1) w A ∧ A.testBit v = true) → ∀ le, post 0 (nI c, a, le)) : wpY_inSomeLargest post (nI c, a, l) (nI v) := by
  have h2 := cm_p2 ok.1
  have hc := ok.1
  unfold wpY_inSomeLargest
  dsimp only
  refine br_f (nI_pos (by omega)) (br_t (nI_lt hv (by omega)) (cy_find ok ha hw (fun le hle => ?_)))
  dsimp only
  refine loop_0 (σ := Unit) (fun n i _ => wY_inSomeLargest_20 post (nI v) (nI c) a le n (nI i)) (fun i _ => ∀ A, A < i → ¬ (cm_Lg (cm_L c d) (2 ^ c - 1) w A ∧ A.testBit v = true)) (2 ^ c) () ?_ ?_ ?_
  · exact fun v hv => absurd hv (Nat.not_lt_zero v)
  · intro n _ hI
    refine br_t (by rw [cm_shl hc]; exact nI_le (Nat.le_refl _) (by omega)) (h0 ?_ le)
    rintro ⟨A, g1, g2⟩
    exact hI A (cm_fs.mp g1.1) ⟨g1, g2⟩
  · intro n i _ hi hI hk
    have next : ¬ (cm_Lg (cm_L c d) (2 ^ c - 1) w i ∧ i.testBit v = true) → wY_inSomeLargest_20 post (nI v) (nI c) a le n (nI (i + 1)) := fun z => hk () (fun b hb => by
      by_cases e : b = i
      · subst e; exact z
      · exact hI b (by omega))
    refine br_f (by rw [cm_shl hc]; exact nI_ge hi (by omega)) ⟨vp_in_nI (by omega) (by omega), ?_⟩
    rw [nI_clamp (n := i) (by omega)]
    refine br_c (fun e => ?_) (fun e => nm_r (nI_1 i) (next (fun z => e ((hle i hi).mpr z.1))))
    refine cy_in (by omega) (by omega) (fun hb => ?_) (fun hb => ?_)
    · exact br_f (by decide) (h1 ⟨i, (hle i hi).mp e, hb⟩ le)
    · exact br_t rfl (nm_r (nI_1 i) (next (fun z => by rw [hb] at z; cases z.2)))
