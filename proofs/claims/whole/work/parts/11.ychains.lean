-- the reference's table of the fewest chains
theorem cm_updS {S k x : Nat} {le : Nat → Int32} {M : Nat → Nat} (h : ∀ j, j ≤ S → le j = nI (M j)) : ∀ j, j ≤ S → upd le k (nI x) j = nI (cm_ut M k x j) := by
  intro j hj
  unfold upd cm_ut
  by_cases e : j = k
  · rw [if_pos e, if_pos e]
  · rw [if_neg e, if_neg e, h j hj]
theorem cy_ch72 {post : Int32 → SY → Prop} {J : Int32 → (Nat → Int32) → (Nat → Int32) → Prop} {lt : Nat → Nat → Prop} {c S m : Nat} {a le : Nat → Int32} {T0 : Nat → Nat}
    (hS : S < 1024) (m0 : m ≠ 0) (mS : cm_Sub m S) (mC : cm_Chn lt m) (hl : ∀ j, j ≤ S → le j = nI (T0 j)) (hlo : cm_Lo lt S T0)
    (hJ : ∀ le T, (∀ j, j ≤ S → le j = nI (T j)) → cm_In lt S m T0 (S + 1) T → J (nI (m + 1)) a le) :
    ∃ n, wY_chains_72 post J (nI S) (nI m) 1 (nI c) n 0 a le := by
  refine loop_0 (fun n r s => wY_chains_72 post J (nI S) (nI m) 1 (nI c) n (nI r) a s) (fun r s => ∃ T, (∀ j, j ≤ S → s j = nI (T j)) ∧ cm_In lt S m T0 r T) (S + 1) le ?_ ?_ ?_
  · exact ⟨T0, hl, cm_In_0 hlo⟩
  · rintro n s ⟨T, h1, h2⟩
    exact br_f (by decide) (br_t (nI_lt (by omega) (by omega)) (nm_r (nI_1 m) (hJ s T h1 h2)))
  · rintro n r s hr ⟨T, h1, h2⟩ hk
    have hrS : r ≤ S := by omega
    refine br_f (by decide) (br_f (nI_nlt hrS (by omega)) (br_c (fun h => ?_) (fun h => ?_)))
    · have e0 := (cm_and0 (by omega)).mp h
      refine br_c (fun g => ?_) (fun g => ?_)
      · have rS := (cm_sub0 (by omega)).mp g
        have hle : r ||| m ≤ S := cm_sub_le (cm_or_sub rS mS)
        have b1 := (h2.2.2.2 r hrS).1
        have b2 := (h2.2.2.2 (r ||| m) hle).1
        rw [cm_or r m, nI_clamp (n := r ||| m) (by omega), nI_clamp (n := r) (by omega), h1 (r ||| m) hle, h1 r hrS, nI_1 (T r)]
        refine ⟨vp_in_nI (by omega) (by omega), vp_in_nI (by omega) (by omega), pk_le (T (r ||| m)) (T r + 1) (fun z => nm_r (nI_1 r) (hk s ⟨T, h1, cm_In_n h2 (fun y => by have := y.2.2; omega)⟩)) (fun z => ?_)⟩
        exact ⟨vp_in_nI (by omega) (by omega), vp_in_nI (by omega) (by omega), nm_e (nm_r (nI_1 r) (hk _ ⟨cm_ut T (r ||| m) (T r + 1), cm_updS h1, cm_In_w hS m0 mS mC rS e0 z h2⟩))⟩
      · exact nm_r (nI_1 r) (hk s ⟨T, h1, cm_In_n h2 (fun y => g ((cm_sub0 (by omega)).mpr y.2.1))⟩)
    · exact nm_r (nI_1 r) (hk s ⟨T, h1, cm_In_n h2 (fun y => h ((cm_and0 (by omega)).mpr y.1))⟩)
theorem cy_ch41 {post : Int32 → SY → Prop} {c : Nat} {d : Nat → Nat} {a le : Nat → Int32} (ok : cm_OK c d) (ha : ∀ j, j < c → a j = nI (d j)) {S w : Nat} (hS : S < 2 ^ c)
    (hw : cm_Wd (cm_L c d) S w) (hl : ∀ j, j ≤ S → le j = nI (cm_T0 j))
    (hp : ∀ le, post (nI w) (nI c, a, le)) : ∃ n, wY_chains_41 post (nI S) (nI c) n 1 a le := by
  have h2 := cm_p2 ok.1
  refine pk_loop (fun n m s => wY_chains_41 post (nI S) (nI c) n (nI m) a s)
    (fun m s => 1 ≤ m ∧ ∃ T, (∀ j, j ≤ S → s j = nI (T j)) ∧ cm_Lo (cm_L c d) S T ∧ cm_Hi (cm_L c d) S m T) (S + 1) 1 le (by omega) ?_ ?_ ?_
  · exact ⟨Nat.le_refl 1, cm_T0, hl, cm_Lo_i _ S, cm_Hi_i _ S⟩
  · rintro n s ⟨_, T, h1, g1, g2⟩
    refine br_t (nI_lt (by omega) (by omega)) ⟨vp_in_nI (by omega) (by omega), ?_⟩
    rw [nI_clamp (by omega), h1 S (Nat.le_refl S), cm_chains (cm_tr ok) (cm_up ok) (by omega) g1 g2 hw]
    exact hp s
  · rintro n m s hm ⟨m1, T, h1, g1, g2⟩ hk
    have no : ¬ (cm_Sub m S ∧ cm_Chn (cm_L c d) m) → ∃ n72, wY_chains_72 post (wY_chains_41 post (nI S) (nI c) n) (nI S) (nI m) 0 (nI c) n72 0 a s :=
      fun z => ⟨1, br_t rfl (nm_r (nI_1 m) (hk s ⟨by omega, T, h1, g1, cm_Hi_n z g2⟩))⟩
    refine br_f (nI_nlt (by omega) (by omega)) (br_c (fun h => ?_) (fun h => ?_))
    · have mS := (cm_sub0 (by omega)).mp h
      refine cy_chn ok ha (by omega) (fun g => ?_) (fun g => ?_)
      · refine br_f (by decide) (cy_ch72 (by omega) (by omega) mS g h1 g1 (fun s' T' f1 f2 => ?_))
        exact hk s' ⟨by omega, T', f1, f2.2.2.2, cm_Hi_g (by omega) g2 f2⟩
      · exact br_t rfl (no (fun z => g z.2))
    · exact no (fun z => h ((cm_sub0 (by omega)).mpr z.1))
theorem cy_chains {post : Int32 → SY → Prop} {c : Nat} {d : Nat → Nat} {a l : Nat → Int32} (ok : cm_OK c d) (ha : ∀ j, j < c → a j = nI (d j)) {S w : Nat} (hS : S < 2 ^ c)
    (hw : cm_Wd (cm_L c d) S w) (hp : ∀ le, post (nI w) (nI c, a, le)) : wpY_chains post (nI c, a, l) (nI S) := by
  have h2 := cm_p2 ok.1
  unfold wpY_chains
  dsimp only
  refine cy_set_y ok.1 hS (br_f (by decide) ?_)
  refine loop_0 (fun n i s => wY_chains_12 post (nI S) (nI c) n (nI i) a s) (fun i s => ∀ j, j < i → s j = nI (cm_T0 j)) (S + 1) l ?_ ?_ ?_
  · exact fun v hv => absurd hv (Nat.not_lt_zero v)
  · intro n s hI
    exact br_t (nI_lt (by omega) (by omega)) (cy_ch41 ok ha hS hw (fun j hj => hI j (by omega)) hp)
  · intro n i s hi hI hk
    have st : ∀ x, x = cm_T0 i → ∀ j, j < i + 1 → upd s i (nI x) j = nI (cm_T0 j) := by
      intro x ex j hj
      by_cases e : j = i
      · subst e; rw [pk_us, ex]
      · rw [pk_un e]; exact hI j (by omega)
    refine br_f (nI_nlt (by omega) (by omega)) (pk_eq i 0 (fun e => ?_) (fun e => ?_))
    · refine ⟨vp_in_nI (by omega) (by omega), nm_e (nm_r (nI_1 i) (hk _ ?_))⟩
      rw [nI_clamp (by omega)]
      exact st 0 (by unfold cm_T0; rw [if_pos e])
    · refine ⟨vp_in_nI (by omega) (by omega), nm_e (nm_r (nI_1 i) (hk _ ?_))⟩
      rw [nI_clamp (by omega)]
      exact st 100 (by unfold cm_T0; rw [if_neg e])
