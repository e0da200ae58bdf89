-- turn, both sides
noncomputable def cm_tf (c : Nat) (d : Nat → Nat) (a : Nat → Int32) : Nat → Int32 := fun j => if j < c then nI (cm_tn c d j) else a j
theorem cm_tfs (i : Nat) (tu a : Nat → Int32) : upd (fun j => if j < i then tu j else a j) i (tu i) = fun j => if j < i + 1 then tu j else a j := by
  funext j
  unfold upd
  by_cases e : j = i
  · subst e
    rw [if_pos rfl, if_pos (by omega)]
  · rw [if_neg e]
    dsimp only
    by_cases h : j < i
    · rw [if_pos h, if_pos (by omega)]
    · rw [if_neg h, if_neg (by omega)]
theorem cm_tf0 (tu a : Nat → Int32) : (fun j => if j < 0 then tu j else a j) = a := by
  funext j
  rw [if_neg (Nat.not_lt_zero j)]
theorem cm_tfe {c : Nat} {d : Nat → Nat} {tu a : Nat → Int32} (h : ∀ j, j < c → tu j = nI (cm_tn c d j)) : (fun j => if j < c then tu j else a j) = cm_tf c d a := by
  funext j
  unfold cm_tf
  by_cases e : j < c
  · rw [if_pos e, if_pos e, h j e]
  · rw [if_neg e, if_neg e]
theorem cx_turn2 {post : Int32 → SX → Prop} {c : Nat} {d : Nat → Nat} {a tu : Nat → Int32} (hc : c ≤ 10) (h : ∀ j, j < c → tu j = nI (cm_tn c d j))
    (hp : post (nI c) (nI c, cm_tf c d a, tu)) : ∃ n, wX_turn_42 post (nI c) n 0 a tu := by
  refine loop_0 (fun n i s => wX_turn_42 post (nI c) n (nI i) s tu) (fun i s => s = fun j => if j < i then tu j else a j) c a ?_ ?_ ?_
  · exact (cm_tf0 tu a).symm
  · intro n s hI
    rw [hI, cm_tfe h]
    exact br_t (nI_le (Nat.le_refl c) (by omega)) hp
  · intro n i s hi hI hk
    refine br_f (nI_ge hi (by omega)) ⟨vp_in_nI (by omega) (by omega), vp_in_nI (by omega) (by omega), nm_r ?_ (nm_r (nI_1 i) (hk _ rfl))⟩
    rw [nI_clamp (by omega), hI, cm_tfs]
theorem cm_mir {c : Nat} {d : Nat → Nat} (hc : c ≤ 10) {i f g : Nat} (hi : i < c) (hf : ∀ t, f.testBit t = true ↔ t < c ∧ (d t).testBit i = true)
    (hg : ∀ t, g.testBit t = true ↔ ∃ v, v < c ∧ f.testBit v = true ∧ c - 1 - v = t) : g = cm_tn c d (c - 1 - i) := by
  apply cm_ext
  intro t
  rw [hg t, cm_tn_bit hc, show c - 1 - (c - 1 - i) = i by omega]
  constructor
  · rintro ⟨v, h1, h2, h3⟩
    have h4 := (hf v).mp h2
    refine ⟨by omega, ?_⟩
    rw [show c - 1 - t = v by omega]
    exact h4.2
  · rintro ⟨h1, h2⟩
    exact ⟨c - 1 - t, by omega, (hf _).mpr ⟨by omega, h2⟩, by omega⟩
theorem cx_turn {post : Int32 → SX → Prop} {c : Nat} {d : Nat → Nat} {a b : Nat → Int32} (ok : cm_OK c d) (ha : ∀ j, j < c → a j = nI (d j))
    (hp : ∀ tu, post (nI c) (nI c, cm_tf c d a, tu)) : wpX_turn post (nI c, a, b) := by
  have hc := ok.1
  refine loop_0 (fun n i s => wX_turn_2 post (nI c) n (nI i) a s) (fun i s => ∀ v, v < i → s (c - 1 - v) = nI (cm_tn c d (c - 1 - v))) c b ?_ ?_ ?_
  · exact fun v hv => absurd hv (Nat.not_lt_zero v)
  · intro n s hI
    refine br_t (nI_le (Nat.le_refl c) (by omega)) (cx_turn2 hc (fun j hj => ?_) (hp s))
    have h := hI (c - 1 - j) (by omega)
    rw [show c - 1 - (c - 1 - j) = j by omega] at h
    exact h
  · intro n i s hi hI hk
    refine br_f (nI_ge hi (by omega)) (cx_ea ok ha hi (fun f hf => cx_mi hc (cm_lt2 (fun t ht => ((hf t).mp ht).1)) (fun g hg => ?_)))
    rw [cm_c1 hi]
    refine ⟨vp_in_nI (by omega) (by omega), nm_e (nm_r (nI_1 i) (hk _ ?_))⟩
    rw [nI_clamp (by omega)]
    intro v hv
    by_cases e : v = i
    · subst e
      rw [pk_us, cm_mir hc hi hf hg]
    · rw [pk_un (by omega)]
      exact hI v (by omega)
