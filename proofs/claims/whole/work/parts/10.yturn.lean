-- the reference turns
theorem cy_turn4 {post : Int32 → SY → Prop} {c : Nat} {d : Nat → Nat} {a le : Nat → Int32} (hc : c ≤ 10) (h : ∀ j, j < c → le j = nI (cm_tn c d j))
    (hp : post (nI c) (nI c, cm_tf c d a, le)) : ∃ n, wY_turn_108 post (nI c) n 0 a le := by
  refine loop_0 (fun n i s => wY_turn_108 post (nI c) n (nI i) s le) (fun i s => s = fun j => if j < i then le j else a j) c a ?_ ?_ ?_
  · exact (cm_tf0 le a).symm
  · intro n s hI
    rw [hI, cm_tfe h]
    exact br_t (nI_le (Nat.le_refl c) (by omega)) hp
  · intro n i s hi hI hk
    refine br_f (nI_ge hi (by omega)) ⟨vp_in_nI (by omega) (by omega), vp_in_nI (by omega) (by omega), nm_r ?_ (nm_r (nI_1 i) (hk _ rfl))⟩
    rw [nI_clamp (by omega), hI, cm_tfs]
theorem cm_updM {c k x : Nat} {le : Nat → Int32} {M : Nat → Nat} (h : ∀ j, j < c → le j = nI (M j)) : ∀ j, j < c → upd le k (nI x) j = nI (cm_ut M k x j) := by
  intro j hj
  unfold upd cm_ut
  by_cases e : j = k
  · rw [if_pos e, if_pos e]
  · rw [if_neg e, if_neg e, h j hj]
theorem cy_turn3 {post : Int32 → SY → Prop} {c : Nat} {d : Nat → Nat} {a le : Nat → Int32} (ok : cm_OK c d) (ha : ∀ j, j < c → a j = nI (d j)) (h : ∀ j, j < c → le j = nI 0)
    (hp : ∀ le, post (nI c) (nI c, cm_tf c d a, le)) : ∃ n, wY_turn_25 post (nI c) n 0 a le := by
  have hc := ok.1
  refine loop_0 (fun n i s => wY_turn_25 post (nI c) n (nI i) a s) (fun i s => ∃ M, (∀ j, j < c → s j = nI (M j)) ∧ cm_Tl c d i 0 M) c le ?_ ?_ ?_
  · exact ⟨fun _ => 0, h, cm_Tl_0 c d (fun _ _ => rfl)⟩
  · rintro n s ⟨M, h1, h2⟩
    refine br_t (nI_le (Nat.le_refl c) (by omega)) (cy_turn4 hc (fun j hj => ?_) (hp s))
    rw [h1 j hj, cm_Tl_e hc h2 j hj]
  · rintro n i s hi ⟨M, h1, h2⟩ hk
    have hd := cm_dk ok hi
    refine br_f (nI_ge hi (by omega)) ?_
    refine loop_0 (fun m k s => wY_turn_35 post (wY_turn_25 post (nI c) n) (nI i) (nI c) m (nI k) a s) (fun k s => ∃ M, (∀ j, j < c → s j = nI (M j)) ∧ cm_Tl c d i k M) c s ?_ ?_ ?_
    · exact ⟨M, h1, h2⟩
    · rintro m s ⟨M, g1, g2⟩
      exact br_t (nI_le (Nat.le_refl c) (by omega)) (nm_r (nI_1 i) (hk s ⟨M, g1, cm_Tl_r g2⟩))
    · rintro m k s hkc ⟨M, g1, g2⟩ hm
      refine br_f (nI_ge hkc (by omega)) ⟨vp_in_nI (by omega) (by omega), ?_⟩
      rw [nI_clamp (n := i) (by omega), ha i hi]
      refine cy_in (by omega) (by omega) (fun hb => ?_) (fun hb => ?_)
      · refine br_f (by decide) ?_
        rw [cm_c1 hkc, cm_c1 hi]
        refine ⟨vp_in_nI (by omega) (by omega), vp_in_nI (by omega) (by omega), nm_r (e' := upd s (c - 1 - k) (nI (M (c - 1 - k) ||| 2 ^ (c - 1 - i)))) ?_ (nm_r (nI_1 k) (hm _ ⟨cm_ut M (c - 1 - k) (M (c - 1 - k) ||| 2 ^ (c - 1 - i)), cm_updM g1, cm_Tl_y hc hi hkc g2 hb⟩))⟩
        rw [nI_clamp (by omega), g1 (c - 1 - k) (by omega), cm_shl (by omega), cm_or]
      · exact br_t rfl (nm_r (nI_1 k) (hm s ⟨M, g1, cm_Tl_n hi hkc g2 hb⟩))
theorem cy_turn {post : Int32 → SY → Prop} {c : Nat} {d : Nat → Nat} {a l : Nat → Int32} (ok : cm_OK c d) (ha : ∀ j, j < c → a j = nI (d j))
    (hp : ∀ le, post (nI c) (nI c, cm_tf c d a, le)) : wpY_turn post (nI c, a, l) := by
  have hc := ok.1
  refine loop_0 (fun n i s => wY_turn_2 post (nI c) n (nI i) a s) (fun i s => ∀ j, j < i → s j = nI 0) c l ?_ ?_ ?_
  · exact fun v hv => absurd hv (Nat.not_lt_zero v)
  · intro n s hI
    exact br_t (nI_le (Nat.le_refl c) (by omega)) (cy_turn3 ok ha hI hp)
  · intro n i s hi hI hk
    refine br_f (nI_ge hi (by omega)) ⟨vp_in_nI (by omega) (by omega), nm_e (nm_r (nI_1 i) (hk _ ?_))⟩
    rw [nI_clamp (by omega)]
    intro j hj
    by_cases e : j = i
    · subst e; exact pk_us
    · rw [pk_un e]
      exact hI j (by omega)
