-- add and below, both sides
theorem cx_add_f {post : Int32 → SX → Prop} {a b : Nat → Int32} {x : Int32} (hp : post (-2) (nI 10, a, b)) : wpX_add post (nI 10, a, b) x := by
  unfold wpX_add
  dsimp only
  exact br_f (nI_nlt (Nat.le_refl 10) (by decide)) hp
theorem cx_add_n {post : Int32 → SX → Prop} {c : Nat} {a b : Nat → Int32} {x : Int32} (hc : c < 10) (h : x < 0 ∨ nI (2 ^ c) ≤ x) (hp : post (-1) (nI c, a, b)) : wpX_add post (nI c, a, b) x := by
  unfold wpX_add
  dsimp only
  exact br_t (nI_lt (b := 10) hc (by decide)) (cx_set_n (by omega) h (br_t rfl hp))
theorem cx_add_y {post : Int32 → SX → Prop} {c : Nat} {d : Nat → Nat} {a b : Nat → Int32} (ok : cm_OK c d) (ha : ∀ j, j < c → a j = nI (d j)) (hc : c < 10) {s : Nat} (hs : s < 2 ^ c)
    (hp : ∀ f, (∀ t, f.testBit t = true ↔ s.testBit t = true ∨ ∃ v, v < c ∧ s.testBit v = true ∧ (d v).testBit t = true) → post (nI (c + 1)) (nI (c + 1), upd a c (nI f), b)) :
    wpX_add post (nI c, a, b) (nI s) := by
  unfold wpX_add
  dsimp only
  refine br_t (nI_lt (b := 10) hc (by decide)) (cx_set_y (by omega) hs (br_f (by decide) (cx_eb ok ha hs (fun f _ hf => ?_))))
  refine ⟨vp_in_nI hc (by decide), nm_r (e' := upd a c (nI (s ||| f))) ?_ (nm_r (nI_1 c) (hp (s ||| f) (fun t => ?_)))⟩
  · rw [nI_clamp (by omega), cm_or]
  · rw [cm_or_bit, hf t]
theorem cy_add_f {post : Int32 → SY → Prop} {a b : Nat → Int32} {x : Int32} (hp : post (-2) (nI 10, a, b)) : wpY_add post (nI 10, a, b) x := by
  unfold wpY_add
  dsimp only
  exact br_t rfl hp
theorem cm_n10 {c : Nat} (hc : c < 10) : ¬ nI c = 10 := fun h => by
  have := (nI_eq (a := c) (b := 10) (by omega) (by decide)).mp h
  omega
theorem cy_add_n {post : Int32 → SY → Prop} {c : Nat} {a b : Nat → Int32} {x : Int32} (hc : c < 10) (h : x < 0 ∨ nI (2 ^ c) ≤ x) (hp : post (-1) (nI c, a, b)) : wpY_add post (nI c, a, b) x := by
  unfold wpY_add
  dsimp only
  exact br_f (cm_n10 hc) (cy_set_n (by omega) h (br_t rfl hp))
theorem cy_add_y {post : Int32 → SY → Prop} {c : Nat} {d : Nat → Nat} {a l : Nat → Int32} (ok : cm_OK c d) (ha : ∀ j, j < c → a j = nI (d j)) (hc : c < 10) {s : Nat} (hs : s < 2 ^ c)
    (hp : ∀ f, (∀ t, f.testBit t = true ↔ s.testBit t = true ∨ ∃ v, v < c ∧ s.testBit v = true ∧ (d v).testBit t = true) → post (nI (c + 1)) (nI (c + 1), upd a c (nI f), l)) :
    wpY_add post (nI c, a, l) (nI s) := by
  have h2 := cm_p2 ok.1
  unfold wpY_add
  dsimp only
  refine br_f (cm_n10 hc) (cy_set_y (by omega) hs (br_f (by decide) ?_))
  refine loop_0 (fun n i f => wY_add_26 post (nI s) (nI c) a l n (nI f) (nI i))
    (fun i f => ∀ t, f.testBit t = true ↔ s.testBit t = true ∨ ∃ v, v < i ∧ s.testBit v = true ∧ (d v).testBit t = true) c s ?_ ?_ ?_
  · refine fun t => ⟨fun h => Or.inl h, ?_⟩
    rintro (h | ⟨v, hv, _⟩)
    · exact h
    · exact absurd hv (Nat.not_lt_zero v)
  · intro n f hI
    refine br_t (nI_le (Nat.le_refl c) (by omega)) ⟨vp_in_nI hc (by decide), nm_r (e' := upd a c (nI f)) ?_ (nm_r (nI_1 c) (hp f hI))⟩
    rw [nI_clamp (by omega)]
  · intro n i f hi hI hk
    refine br_f (nI_ge hi (by omega)) (cy_in (by omega) (by omega) (fun hb => ?_) (fun hb => ?_))
    · refine br_f (by decide) ⟨vp_in_nI (by omega) (by omega), nm_r ?_ (nm_r (nI_1 i) (hk (f ||| d i) ?_))⟩
      · rw [nI_clamp (by omega), ha i hi, cm_or]
      · intro t
        rw [cm_or_bit, hI t, cm_exs, or_assoc]
        simp [hb]
    · refine br_t rfl (nm_r (nI_1 i) (hk f ?_))
      intro t
      rw [hI t, cm_exs]
      simp [hb]
theorem cx_bel {post : Int32 → Prop} {c : Nat} {d : Nat → Nat} {a b : Nat → Int32} (ok : cm_OK c d) (ha : ∀ j, j < c → a j = nI (d j)) {u v : Nat} (hu : u < c) (hv : v < c)
    (h1 : (d v).testBit u = true → post 1) (h0 : (d v).testBit u = false → post 0) : wpX_below post (nI c, a, b) (nI u) (nI v) := by
  have hc := ok.1
  have hd := cm_dk ok hv
  unfold wpX_below
  dsimp only
  refine cx_elt_y hc hu (br_f (by decide) (cx_elt_y hc hv (br_f (by decide) ⟨vp_in_nI (by omega) (by decide), ?_⟩)))
  rw [nI_clamp (n := v) (by omega), ha v hv]
  exact cx_has (by omega) (by omega) (fun h => br_f (by decide) (h1 h)) (fun h => br_t rfl (h0 h))
theorem cy_below {post : Int32 → Prop} {c : Nat} {d : Nat → Nat} {a b : Nat → Int32} (ok : cm_OK c d) (ha : ∀ j, j < c → a j = nI (d j)) {u v : Nat} (hu : u < c) (hv : v < c)
    (h1 : (d v).testBit u = true → post 1) (h0 : (d v).testBit u = false → post 0) : wpY_below post (nI c, a, b) (nI u) (nI v) := by
  have hc := ok.1
  have hd := cm_dk ok hv
  unfold wpY_below
  dsimp only
  refine br_f (nI_pos (by omega)) (br_f (nI_ge hu (by omega)) (br_f (nI_pos (by omega)) (br_f (nI_ge hv (by omega)) ⟨vp_in_nI (by omega) (by decide), ?_⟩)))
  rw [nI_clamp (n := v) (by omega), ha v hv]
  exact cy_in (by omega) (by omega) (fun h => br_f (by decide) (h1 h)) (fun h => br_t rfl (h0 h))
theorem cx_bel_1 {post : Int32 → Prop} {c : Nat} {a b : Nat → Int32} {x y : Int32} (h : x < 0 ∨ nI c ≤ x) (hp : post 0) : wpX_below post (nI c, a, b) x y := by
  unfold wpX_below
  dsimp only
  exact cx_elt_n h (br_t rfl hp)
theorem cx_bel_2 {post : Int32 → Prop} {c : Nat} {a b : Nat → Int32} {u : Nat} {y : Int32} (hc : c ≤ 10) (hu : u < c) (h : y < 0 ∨ nI c ≤ y) (hp : post 0) : wpX_below post (nI c, a, b) (nI u) y := by
  unfold wpX_below
  dsimp only
  exact cx_elt_y hc hu (br_f (by decide) (cx_elt_n h (br_t rfl hp)))
theorem cy_bel_1 {post : Int32 → Prop} {c : Nat} {a b : Nat → Int32} {x y : Int32} (h : x < 0 ∨ nI c ≤ x) (hp : post 0) : wpY_below post (nI c, a, b) x y := by
  unfold wpY_below
  dsimp only
  by_cases h0 : x < 0
  · exact br_t h0 hp
  · exact br_f h0 (br_t (h.resolve_left h0) hp)
theorem cy_bel_2 {post : Int32 → Prop} {c : Nat} {a b : Nat → Int32} {u : Nat} {y : Int32} (hc : c ≤ 10) (hu : u < c) (h : y < 0 ∨ nI c ≤ y) (hp : post 0) : wpY_below post (nI c, a, b) (nI u) y := by
  unfold wpY_below
  dsimp only
  refine br_f (nI_pos (by omega)) (br_f (nI_ge hu (by omega)) ?_)
  by_cases h0 : y < 0
  · exact br_t h0 hp
  · exact br_f h0 (br_t (h.resolve_left h0) hp)
-- the argument of a method that takes a set, or an element
theorem cm_arg (x : Int32) {n : Nat} (hn : n < 2 ^ 31) : (x < 0 ∨ nI n ≤ x) ∨ ∃ s, s < n ∧ x = nI s := by
  rcases pk_ix x hn with h | h | ⟨s, h1, h2⟩
  · exact Or.inl (Or.inl h)
  · exact Or.inl (Or.inr h)
  · exact Or.inr ⟨s, h1, h2⟩
