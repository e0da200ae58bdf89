-- machine ints as masks
theorem cm_or (a b : Nat) : nI a ||| nI b = nI (a ||| b) := by
  apply Int32.toBitVec_inj.1
  show BitVec.ofNat 32 a ||| BitVec.ofNat 32 b = BitVec.ofNat 32 (a ||| b)
  apply BitVec.eq_of_getLsbD_eq
  intro i hi
  simp [hi]
theorem cm_shr {s v : Nat} (hs : s < 2 ^ 31) (hv : v < 32) : (nI s >>> (nI v &&& 31)) &&& 1 = nI (s.testBit v).toNat := by
  have h1 : s / 2 ^ v ≤ s := Nat.div_le_self _ _
  rw [pk_shrN hs _ v (s_l v hv), pk_andN (by omega) 1 (by decide)]
  apply congrArg nI
  rw [Nat.testBit_eq_decide_div_mod_eq]
  show s / 2 ^ v % 2 = _
  generalize s / 2 ^ v = z
  rcases Nat.mod_two_eq_zero_or_one z with h | h <;> rw [h] <;> rfl
theorem cm_b0 {s v : Nat} (hs : s < 2 ^ 31) (hv : v < 32) : (nI s >>> (nI v &&& 31)) &&& 1 = 0 ↔ s.testBit v = false := by
  rw [cm_shr hs hv]
  cases s.testBit v
  · exact ⟨fun _ => rfl, fun _ => rfl⟩
  · exact ⟨fun h => absurd h (by decide), fun h => by cases h⟩
theorem cm_b1 {s v : Nat} (hs : s < 2 ^ 31) (hv : v < 32) : (nI s >>> (nI v &&& 31)) &&& 1 = 1 ↔ s.testBit v = true := by
  rw [cm_shr hs hv]
  cases s.testBit v
  · exact ⟨fun h => absurd h (by decide), fun h => by cases h⟩
  · exact ⟨fun _ => rfl, fun _ => rfl⟩
theorem cm_p2 {c : Nat} (h : c ≤ 10) : 2 ^ c ≤ 1024 := by
  have h1 : (2 : Nat) ^ c ≤ 2 ^ 10 := Nat.pow_le_pow_right (by decide) h
  rw [show (2 : Nat) ^ 10 = 1024 from rfl] at h1
  exact h1
theorem cm_shl {v : Nat} (hv : v ≤ 10) : (1 : Int32) <<< (nI v &&& 31) = nI (2 ^ v) := by
  have h1 := cm_p2 hv
  have h := pk_shlN (n := 1) (nI v &&& 31) v (s_l v (by omega)) (by omega)
  rw [Nat.one_mul] at h
  exact h
theorem cm_btn (n : Nat) {i : Nat} (hi : i < 32) : bt (nI n) i = n.testBit i := by
  unfold bt
  show (BitVec.ofNat 32 n).getLsbD i = _
  rw [BitVec.getLsbD_ofNat]
  simp [hi]
theorem cm_not {r m : Nat} (hr : r < 1024) : nI r &&& (nI m ^^^ (-1)) = nI (cm_df r m) := by
  apply b_ext
  intro i hi
  rw [b_and, b_xor, b_m1 i hi, cm_btn _ hi, cm_btn _ hi, cm_btn _ hi]
  have h := cm_df_bit (s := r) (t := m) (v := i) hr
  cases e : r.testBit i <;> cases f : m.testBit i <;> cases g : (cm_df r m).testBit i <;> simp_all
theorem cm_0i {s : Nat} : s = 0 ↔ ∀ v, ¬ s.testBit v = true := by
  constructor
  · intro h v
    rw [h]
    simp
  · intro h
    apply cm_ext
    intro v
    exact ⟨fun g => absurd g (h v), fun g => by simp at g⟩
theorem cm_nI0 {s : Nat} (hs : s < 2 ^ 31) : nI s = 0 ↔ s = 0 := by
  rw [← nI_0, nI_eq hs (by omega)]
theorem cm_sub0 {p s : Nat} (hp : p < 1024) : nI p &&& (nI s ^^^ (-1)) = 0 ↔ cm_Sub p s := by
  have hl : cm_df p s < 1024 := cm_bm_lt _
  rw [cm_not hp, cm_nI0 (by omega), cm_0i]
  constructor
  · intro h v hv
    apply Classical.byContradiction
    intro hn
    exact h v ((cm_df_bit hp).mpr ⟨hv, hn⟩)
  · intro h v hv
    have := (cm_df_bit hp).mp hv
    exact this.2 (h v this.1)
theorem cm_and0 {p s : Nat} (hp : p < 1024) : nI p &&& nI s = 0 ↔ p &&& s = 0 := by
  have hl : p &&& s ≤ p := Nat.and_le_left
  rw [nx_and, cm_nI0 (by omega)]
theorem cm_and0' {p s : Nat} : p &&& s = 0 ↔ ∀ v, p.testBit v = true → ¬ s.testBit v = true := by
  rw [cm_0i]
  constructor
  · intro h v h1 h2
    exact h v (cm_and_bit.mpr ⟨h1, h2⟩)
  · intro h v h1
    exact h v (cm_and_bit.mp h1).1 (cm_and_bit.mp h1).2

-- the order of c elements with down-sets d
def cm_OK (c : Nat) (d : Nat → Nat) : Prop :=
  c ≤ 10 ∧ (∀ v, v < c → d v < 2 ^ v) ∧ ∀ v u t, v < c → (d v).testBit u = true → (d u).testBit t = true → (d v).testBit t = true
def cm_L (c : Nat) (d : Nat → Nat) : Nat → Nat → Prop := fun u v => v < c ∧ (d v).testBit u = true

theorem cm_hi2 {c s v : Nat} (hs : s < 2 ^ c) (h : s.testBit v = true) : v < c := by
  apply Classical.byContradiction
  intro hv
  have h2 : s < 2 ^ v := Nat.lt_of_lt_of_le hs (Nat.pow_le_pow_right (by decide) (by omega))
  rw [Nat.testBit_lt_two_pow h2] at h
  cases h
theorem cm_lt2 {c s : Nat} (h : ∀ v, s.testBit v = true → v < c) : s < 2 ^ c := by
  apply Nat.lt_pow_two_of_testBit
  intro i hi
  cases e : s.testBit i with
  | false => rfl
  | true => have := h i e; omega
theorem cm_fb {c v : Nat} : (2 ^ c - 1).testBit v = true ↔ v < c := by
  rw [Nat.testBit_two_pow_sub_one, decide_eq_true_eq]
theorem cm_fs {c s : Nat} : cm_Sub s (2 ^ c - 1) ↔ s < 2 ^ c := by
  constructor
  · intro h
    exact cm_lt2 (fun v hv => cm_fb.mp (h v hv))
  · intro h v hv
    exact cm_fb.mpr (cm_hi2 h hv)
theorem cm_dk {c : Nat} {d : Nat → Nat} (ok : cm_OK c d) {v : Nat} (hv : v < c) : d v < 1024 := by
  have h1 := ok.2.1 v hv
  have h2 := cm_p2 (c := v) (by have := ok.1; omega)
  omega
theorem cm_up {c : Nat} {d : Nat → Nat} (ok : cm_OK c d) : ∀ a b, cm_L c d a b → a < b :=
  fun a b h => cm_hi2 (ok.2.1 b h.1) h.2
theorem cm_tr {c : Nat} {d : Nat → Nat} (ok : cm_OK c d) : ∀ x y z, cm_L c d x y → cm_L c d y z → cm_L c d x z :=
  fun x y z h1 h2 => ⟨h2.1, ok.2.2 z y x h2.1 h2.2 h1.2⟩
theorem cm_ir {c : Nat} {d : Nat → Nat} (ok : cm_OK c d) : ∀ a, ¬ cm_L c d a a :=
  fun a h => Nat.lt_irrefl a (cm_up ok a a h)
