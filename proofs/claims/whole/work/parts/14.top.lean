/-- both sides keep the same order: c elements, the same array of down-sets; the component's second array and the reference's table are free -/
def i_Rel (_ : Nat) (u : SX) (v : SY) : Prop :=
  ∃ (c : Nat) (d : Nat → Nat) (a b l : Nat → Int32), cm_OK c d ∧ (∀ j, j < c → a j = nI (d j)) ∧ u = (nI c, a, b) ∧ v = (nI c, a, l)
theorem i_up {k : Nat} {u : SX} {v : SY} (h : i_Rel k u v) : i_Rel (k + 3) u v := h
theorem i_vc0 : wpX_init (fun u => wpY_init (fun v => i_Rel 0 u v)) :=
  ⟨0, fun _ => 0, fun _ => 0, fun _ => 0, fun _ => 0, ⟨Nat.zero_le 10, fun v hv => absurd hv (Nat.not_lt_zero v), fun v _ _ hv => absurd hv (Nat.not_lt_zero v)⟩,
    fun j hj => absurd hj (Nat.not_lt_zero j), rfl, rfl⟩
theorem i_vc_add {k : Nat} {u : SX} {v : SY} (I : i_Rel k u v) (hk : k + 3 ≤ 1536) (v1 : Int32) : wpX_add (fun r u' => wpY_add (fun r' v' => r' = r ∧ i_Rel (k + 3) u' v') v v1) u v1 := by
  obtain ⟨c, d, a, b, l, ok, ha, rfl, rfl⟩ := I
  have h2 := cm_p2 ok.1
  by_cases hc : c < 10
  · rcases cm_arg v1 (n := 2 ^ c) (by omega) with h | ⟨s, hs, rfl⟩
    · exact cx_add_n hc h (cy_add_n hc h ⟨rfl, c, d, a, b, l, ok, ha, rfl, rfl⟩)
    · refine cx_add_y ok ha hc hs (fun f hf => cy_add_y ok ha hc hs (fun g hg => ?_))
      have e : g = f := cm_ext (fun t => by rw [hg t, hf t])
      subst e
      refine ⟨rfl, c + 1, cm_ud d c g, upd a c (nI g), b, l, cm_add_ok ok hc hs hf, fun j hj => ?_, rfl, rfl⟩
      unfold upd cm_ud
      by_cases e : j = c
      · rw [if_pos e, if_pos e]
      · rw [if_neg e, if_neg e, ha j (by omega)]
  · have e : c = 10 := by have := ok.1; omega
    subst e
    exact cx_add_f (cy_add_f ⟨rfl, 10, d, a, b, l, ok, ha, rfl, rfl⟩)
theorem i_vc_removeLast {k : Nat} {u : SX} {v : SY} (I : i_Rel k u v) (hk : k + 3 ≤ 1536) : wpX_removeLast (fun r u' => wpY_removeLast (fun r' v' => r' = r ∧ i_Rel (k + 3) u' v') v) u := by
  obtain ⟨c, d, a, b, l, ok, ha, rfl, rfl⟩ := I
  have hc := ok.1
  unfold wpX_removeLast wpY_removeLast
  dsimp only
  cases c with
  | zero => exact br_t rfl (br_t rfl ⟨rfl, 0, d, a, b, l, ok, ha, rfl, rfl⟩)
  | succ c =>
    have h0 : ¬ nI (c + 1) = 0 := nI_ne0 (by omega) (by omega)
    exact br_f h0 (nm_r (nI_pred c) (br_f h0 (nm_r (nI_pred c) ⟨rfl, c, d, a, b, l, cm_less_ok ok, fun j hj => ha j (by omega), rfl, rfl⟩)))
theorem i_vc_turn {k : Nat} {u : SX} {v : SY} (I : i_Rel k u v) (hk : k + 3 ≤ 1536) : wpX_turn (fun r u' => wpY_turn (fun r' v' => r' = r ∧ i_Rel (k + 3) u' v') v) u := by
  obtain ⟨c, d, a, b, l, ok, ha, rfl, rfl⟩ := I
  exact cx_turn ok ha (fun tu => cy_turn ok ha (fun le => ⟨rfl, c, cm_tn c d, cm_tf c d a, tu, le, cm_tn_ok ok, fun j hj => if_pos hj, rfl, rfl⟩))
theorem i_vc_size {k : Nat} {u : SX} {v : SY} (I : i_Rel k u v) (hk : k + 3 ≤ 1536) : wpX_size (fun r => wpY_size (fun r' => r' = r ∧ i_Rel (k + 3) u v) v) u := by
  obtain ⟨c, d, a, b, l, ok, ha, rfl, rfl⟩ := I
  exact ⟨rfl, c, d, a, b, l, ok, ha, rfl, rfl⟩
theorem i_vc_below {k : Nat} {u : SX} {v : SY} (I : i_Rel k u v) (hk : k + 3 ≤ 1536) (v1 : Int32) (v2 : Int32) : wpX_below (fun r => wpY_below (fun r' => r' = r ∧ i_Rel (k + 3) u v) v v1 v2) u v1 v2 := by
  have J : i_Rel (k + 3) u v := I
  obtain ⟨c, d, a, b, l, ok, ha, rfl, rfl⟩ := I
  have hc := ok.1
  rcases cm_arg v1 (n := c) (by omega) with h | ⟨x, hx, rfl⟩
  · exact cx_bel_1 h (cy_bel_1 h ⟨rfl, J⟩)
  · rcases cm_arg v2 (n := c) (by omega) with h | ⟨y, hy, rfl⟩
    · exact cx_bel_2 hc hx h (cy_bel_2 hc hx h ⟨rfl, J⟩)
    · refine cx_bel ok ha hx hy (fun h => cy_below ok ha hx hy (fun _ => ⟨rfl, J⟩) (fun g => ?_)) (fun h => cy_below ok ha hx hy (fun g => ?_) (fun _ => ⟨rfl, J⟩))
      · rw [h] at g; cases g
      · rw [h] at g; cases g
theorem i_vc_width {k : Nat} {u : SX} {v : SY} (I : i_Rel k u v) (hk : k + 3 ≤ 1536) (v1 : Int32) : wpX_width (fun r => wpY_width (fun r' => r' = r ∧ i_Rel (k + 3) u v) v v1) u v1 := by
  have J : i_Rel (k + 3) u v := I
  obtain ⟨c, d, a, b, l, ok, ha, rfl, rfl⟩ := I
  have hc := ok.1
  have h2 := cm_p2 hc
  unfold wpX_width
  dsimp only
  rcases cm_arg v1 (n := 2 ^ c) (by omega) with h | ⟨s, hs, rfl⟩
  · refine cx_set_n hc h (br_t rfl ?_)
    unfold wpY_width
    dsimp only
    exact cy_set_n hc h (br_t rfl ⟨rfl, J⟩)
  · exact cx_set_y hc hs (br_f (by decide) (cx_size ok ha hs (fun w hw => cy_width ok ha hs hw ⟨rfl, J⟩)))
theorem i_vc_chains {k : Nat} {u : SX} {v : SY} (I : i_Rel k u v) (hk : k + 3 ≤ 1536) (v1 : Int32) : wpX_chains (fun r => wpY_chains (fun r' v' => r' = r ∧ i_Rel (k + 3) u v') v v1) u v1 := by
  obtain ⟨c, d, a, b, l, ok, ha, rfl, rfl⟩ := I
  have hc := ok.1
  have h2 := cm_p2 hc
  unfold wpX_chains
  dsimp only
  rcases cm_arg v1 (n := 2 ^ c) (by omega) with h | ⟨s, hs, rfl⟩
  · refine cx_set_n hc h (br_t rfl ?_)
    unfold wpY_chains
    dsimp only
    exact cy_set_n hc h (br_t rfl ⟨rfl, c, d, a, b, l, ok, ha, rfl, rfl⟩)
  · exact cx_set_y hc hs (br_f (by decide) (cx_size ok ha hs (fun w hw => cy_chains ok ha hs hw (fun le => ⟨rfl, c, d, a, b, le, ok, ha, rfl, rfl⟩))))
theorem i_vc_longestChain {k : Nat} {u : SX} {v : SY} (I : i_Rel k u v) (hk : k + 3 ≤ 1536) (v1 : Int32) : wpX_longestChain (fun r => wpY_longestChain (fun r' => r' = r ∧ i_Rel (k + 3) u v) v v1) u v1 := by
  have J : i_Rel (k + 3) u v := I
  obtain ⟨c, d, a, b, l, ok, ha, rfl, rfl⟩ := I
  have hc := ok.1
  have h2 := cm_p2 hc
  unfold wpX_longestChain
  dsimp only
  rcases cm_arg v1 (n := 2 ^ c) (by omega) with h | ⟨s, hs, rfl⟩
  · refine cx_set_n hc h (br_t rfl ?_)
    unfold wpY_longestChain
    dsimp only
    exact cy_set_n hc h (br_t rfl ⟨rfl, J⟩)
  · refine cx_set_y hc hs (br_f (by decide) (cx_long ok ha hs (fun w hw => ?_)))
    unfold wpY_longestChain
    dsimp only
    refine cy_set_y hc hs (br_f (by decide) (cy_lc ok ha hs (fun w' hw' => ?_)))
    rw [cm_Lc_un hw' hw]
    exact ⟨rfl, J⟩
theorem i_vc_lowest {k : Nat} {u : SX} {v : SY} (I : i_Rel k u v) (hk : k + 3 ≤ 1536) : wpX_lowest (fun r => wpY_lowest (fun r' v' => r' = r ∧ i_Rel (k + 3) u v') v) u := by
  obtain ⟨c, d, a, b, l, ok, ha, rfl, rfl⟩ := I
  have hc := ok.1
  have h2 := cm_p2 hc
  have h3 := cm_full_lt c
  unfold wpX_lowest
  dsimp only
  refine cx_union ok ha (fun w U hw hU hch => cx_mn ok ha hU ?_)
  obtain ⟨A, g1, g2, g3⟩ := hw.1
  obtain ⟨hM, hx⟩ := cm_low_eq (cm_tr ok) (cm_ir ok) (S := 2 ^ c - 1) (w := w) (U := U) (by omega) hw.2 ⟨A, g1, g2, g3⟩ hch
  unfold wpY_lowest
  dsimp only
  exact cy_ext ok ha true hw hM hx (fun le => ⟨rfl, c, d, a, b, le, ok, ha, rfl, rfl⟩)
theorem i_vc_highest {k : Nat} {u : SX} {v : SY} (I : i_Rel k u v) (hk : k + 3 ≤ 1536) : wpX_highest (fun r => wpY_highest (fun r' v' => r' = r ∧ i_Rel (k + 3) u v') v) u := by
  obtain ⟨c, d, a, b, l, ok, ha, rfl, rfl⟩ := I
  have hc := ok.1
  have h2 := cm_p2 hc
  have h3 := cm_full_lt c
  unfold wpX_highest
  dsimp only
  refine cx_union ok ha (fun w U hw hU hch => cx_eb ok ha hU (fun f hf hb => ?_))
  rw [cm_not (by omega), cm_mx_eq hc hU hb]
  obtain ⟨A, g1, g2, g3⟩ := hw.1
  obtain ⟨hM, hx⟩ := cm_hi_eq (cm_tr ok) (cm_ir ok) (S := 2 ^ c - 1) (w := w) (U := U) (by omega) hw.2 ⟨A, g1, g2, g3⟩ hch
  unfold wpY_highest
  dsimp only
  exact cy_ext ok ha false hw hM hx (fun le => ⟨rfl, c, d, a, b, le, ok, ha, rfl, rfl⟩)
theorem i_vc_isLargest {k : Nat} {u : SX} {v : SY} (I : i_Rel k u v) (hk : k + 3 ≤ 1536) (v1 : Int32) : wpX_isLargest (fun r => wpY_isLargest (fun r' => r' = r ∧ i_Rel (k + 3) u v) v v1) u v1 := by
  have J : i_Rel (k + 3) u v := I
  obtain ⟨c, d, a, b, l, ok, ha, rfl, rfl⟩ := I
  have hc := ok.1
  have h2 := cm_p2 hc
  unfold wpX_isLargest wpY_isLargest
  dsimp only
  rw [cm_full hc]
  rcases cm_arg v1 (n := 2 ^ c) (by omega) with h | ⟨s, hs, rfl⟩
  · exact cx_set_n hc h (br_t rfl (cy_set_n hc h (br_t rfl ⟨rfl, J⟩)))
  · refine cx_set_y hc hs (br_f (by decide) (cx_anti ok ha hs (fun g => br_f (by decide) (nm_e (cx_count (by omega) (cx_size ok ha (cm_full_lt c) (fun w hw => ?_)))))
      (fun g => br_t rfl (cy_set_y hc hs (br_f (by decide) (cy_anti ok ha hs (fun z => absurd z g) (fun _ => br_t rfl ⟨rfl, J⟩)))))))
    refine br_c (fun e => ?_) (fun e => ?_)
    · exact cy_set_y hc hs (br_f (by decide) (cy_anti ok ha hs (fun _ => br_f (by decide) (cy_size (by omega) (cy_width ok ha (cm_full_lt c) hw (br_t e ⟨rfl, J⟩)))) (fun z => absurd g z)))
    · exact cy_set_y hc hs (br_f (by decide) (cy_anti ok ha hs (fun _ => br_f (by decide) (cy_size (by omega) (cy_width ok ha (cm_full_lt c) hw (br_f e ⟨rfl, J⟩)))) (fun z => absurd g z)))
theorem i_vc_inSomeLargest {k : Nat} {u : SX} {v : SY} (I : i_Rel k u v) (hk : k + 3 ≤ 1536) (v1 : Int32) : wpX_inSomeLargest (fun r => wpY_inSomeLargest (fun r' v' => r' = r ∧ i_Rel (k + 3) u v') v v1) u v1 := by
  obtain ⟨c, d, a, b, l, ok, ha, rfl, rfl⟩ := I
  have hc := ok.1
  have h2 := cm_p2 hc
  unfold wpX_inSomeLargest
  dsimp only
  rcases cm_arg v1 (n := c) (by omega) with h | ⟨s, hs, rfl⟩
  · refine cx_elt_n h (br_t rfl ?_)
    unfold wpY_inSomeLargest
    dsimp only
    by_cases h0 : v1 < 0
    · exact br_t h0 ⟨rfl, c, d, a, b, l, ok, ha, rfl, rfl⟩
    · exact br_f h0 (br_f (Int32.not_lt.mpr (h.resolve_left h0)) ⟨rfl, c, d, a, b, l, ok, ha, rfl, rfl⟩)
  · refine cx_elt_y hc hs (br_f (by decide) (cx_union ok ha (fun w U hw hU hch => cx_has (by omega) (by omega) (fun hb => ⟨rfl, ?_⟩) (fun hb => ⟨rfl, ?_⟩))))
    · exact cy_ins ok ha hs hw (fun _ le => ⟨rfl, c, d, a, b, le, ok, ha, rfl, rfl⟩) (fun z => absurd ((hch s).mp hb) z)
    · refine cy_ins ok ha hs hw (fun z => ?_) (fun _ le => ⟨rfl, c, d, a, b, le, ok, ha, rfl, rfl⟩)
      have := (hch s).mpr z
      rw [hb] at this
      cases this
